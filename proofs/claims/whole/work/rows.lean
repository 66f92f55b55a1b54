section
-- ===== PART A: goes FIRST, ahead of the names: the tables' words, and 'selects' of the private methods out of them =====
/-- a private method of a class that the tables say can be made, by its rows of tables_1 -/
def lw_okq (q : MethodName × Nat) : Prop := (q.1.cls ≠ "java/lang/invoke/MethodHandle" ∧ q.1.cls ≠ "java/lang/invoke/VarHandle") ∧ Cond.instantiable q.1.cls q.2 ∈ tables_1 ∧ Cond.privateMethod q.1 ∈ tables_1 ∧ Cond.instanceMethod q.1 ∈ tables_1
theorem lw_p0 : lw_okq (⟨"ProtocolDesk$Roll", "isOfKind", "(II)Z"⟩, 9) := ⟨⟨by decide +kernel, by decide +kernel⟩, List.mem_of_getElem? (i := 29) (by decide +kernel), List.mem_of_getElem? (i := 383) (by decide +kernel), List.mem_of_getElem? (i := 384) (by decide +kernel)⟩
theorem lw_p1 : lw_okq (⟨"ProtocolDesk$Roll", "setHome", "(II)V"⟩, 9) := ⟨⟨by decide +kernel, by decide +kernel⟩, List.mem_of_getElem? (i := 29) (by decide +kernel), List.mem_of_getElem? (i := 394) (by decide +kernel), List.mem_of_getElem? (i := 395) (by decide +kernel)⟩
theorem lw_p2 : lw_okq (⟨"ProtocolDesk$Roll", "refreshFields", "(I)V"⟩, 9) := ⟨⟨by decide +kernel, by decide +kernel⟩, List.mem_of_getElem? (i := 29) (by decide +kernel), List.mem_of_getElem? (i := 398) (by decide +kernel), List.mem_of_getElem? (i := 399) (by decide +kernel)⟩
theorem lw_p3 : lw_okq (⟨"ProtocolDesk$Roll", "rankOf", "(I)I"⟩, 9) := ⟨⟨by decide +kernel, by decide +kernel⟩, List.mem_of_getElem? (i := 29) (by decide +kernel), List.mem_of_getElem? (i := 402) (by decide +kernel), List.mem_of_getElem? (i := 403) (by decide +kernel)⟩
theorem lw_p4 : lw_okq (⟨"ProtocolDesk$Roll", "ownRankOf", "(I)I"⟩, 9) := ⟨⟨by decide +kernel, by decide +kernel⟩, List.mem_of_getElem? (i := 29) (by decide +kernel), List.mem_of_getElem? (i := 406) (by decide +kernel), List.mem_of_getElem? (i := 407) (by decide +kernel)⟩
theorem lw_p5 : lw_okq (⟨"ProtocolDesk$Roll", "paperOf", "(I)I"⟩, 9) := ⟨⟨by decide +kernel, by decide +kernel⟩, List.mem_of_getElem? (i := 29) (by decide +kernel), List.mem_of_getElem? (i := 413) (by decide +kernel), List.mem_of_getElem? (i := 414) (by decide +kernel)⟩
theorem lw_p6 : lw_okq (⟨"ProtocolDesk$Tape", "readHead", "(LProtocolDesk$Rule;)V"⟩, 4) := ⟨⟨by decide +kernel, by decide +kernel⟩, List.mem_of_getElem? (i := 75) (by decide +kernel), List.mem_of_getElem? (i := 482) (by decide +kernel), List.mem_of_getElem? (i := 483) (by decide +kernel)⟩
theorem lw_p7 : lw_okq (⟨"ProtocolDesk$Tape", "readWord", "(Ljava/lang/String;)I"⟩, 4) := ⟨⟨by decide +kernel, by decide +kernel⟩, List.mem_of_getElem? (i := 75) (by decide +kernel), List.mem_of_getElem? (i := 487) (by decide +kernel), List.mem_of_getElem? (i := 488) (by decide +kernel)⟩
theorem lw_p8 : lw_okq (⟨"ProtocolDesk$Tape", "byteAt", "(I)I"⟩, 4) := ⟨⟨by decide +kernel, by decide +kernel⟩, List.mem_of_getElem? (i := 75) (by decide +kernel), List.mem_of_getElem? (i := 539) (by decide +kernel), List.mem_of_getElem? (i := 540) (by decide +kernel)⟩
theorem lw_p9 : lw_okq (⟨"ProtocolDesk$Tape", "fail", "(I)V"⟩, 4) := ⟨⟨by decide +kernel, by decide +kernel⟩, List.mem_of_getElem? (i := 75) (by decide +kernel), List.mem_of_getElem? (i := 546) (by decide +kernel), List.mem_of_getElem? (i := 547) (by decide +kernel)⟩
theorem lw_p10 : lw_okq (⟨"ProtocolDesk$Tape", "readBlank", "()V"⟩, 4) := ⟨⟨by decide +kernel, by decide +kernel⟩, List.mem_of_getElem? (i := 75) (by decide +kernel), List.mem_of_getElem? (i := 550) (by decide +kernel), List.mem_of_getElem? (i := 551) (by decide +kernel)⟩
theorem lw_p11 : lw_okq (⟨"ProtocolDesk$Tape", "hasMore", "()Z"⟩, 4) := ⟨⟨by decide +kernel, by decide +kernel⟩, List.mem_of_getElem? (i := 75) (by decide +kernel), List.mem_of_getElem? (i := 557) (by decide +kernel), List.mem_of_getElem? (i := 558) (by decide +kernel)⟩
theorem lw_p12 : lw_okq (⟨"ProtocolDesk$Tape", "readTests", "(LProtocolDesk$Rule;)V"⟩, 4) := ⟨⟨by decide +kernel, by decide +kernel⟩, List.mem_of_getElem? (i := 75) (by decide +kernel), List.mem_of_getElem? (i := 561) (by decide +kernel), List.mem_of_getElem? (i := 562) (by decide +kernel)⟩
theorem lw_p13 : lw_okq (⟨"ProtocolDesk$Tape", "readTest", "(LProtocolDesk$Rule;I)V"⟩, 4) := ⟨⟨by decide +kernel, by decide +kernel⟩, List.mem_of_getElem? (i := 75) (by decide +kernel), List.mem_of_getElem? (i := 566) (by decide +kernel), List.mem_of_getElem? (i := 567) (by decide +kernel)⟩
theorem lw_p14 : lw_okq (⟨"ProtocolDesk$Tape", "readNumber", "()I"⟩, 4) := ⟨⟨by decide +kernel, by decide +kernel⟩, List.mem_of_getElem? (i := 75) (by decide +kernel), List.mem_of_getElem? (i := 575) (by decide +kernel), List.mem_of_getElem? (i := 576) (by decide +kernel)⟩
theorem lw_p15 : lw_okq (⟨"ProtocolDesk", "areTwo", "(II)Z"⟩, 7) := ⟨⟨by decide +kernel, by decide +kernel⟩, List.mem_of_getElem? (i := 21) (by decide +kernel), List.mem_of_getElem? (i := 601) (by decide +kernel), List.mem_of_getElem? (i := 602) (by decide +kernel)⟩
def lw_privs_1 : List (MethodName × Nat) := [(⟨"ProtocolDesk$Roll", "isOfKind", "(II)Z"⟩, 9), (⟨"ProtocolDesk$Roll", "setHome", "(II)V"⟩, 9), (⟨"ProtocolDesk$Roll", "refreshFields", "(I)V"⟩, 9), (⟨"ProtocolDesk$Roll", "rankOf", "(I)I"⟩, 9), (⟨"ProtocolDesk$Roll", "ownRankOf", "(I)I"⟩, 9), (⟨"ProtocolDesk$Roll", "paperOf", "(I)I"⟩, 9), (⟨"ProtocolDesk$Tape", "readHead", "(LProtocolDesk$Rule;)V"⟩, 4), (⟨"ProtocolDesk$Tape", "readWord", "(Ljava/lang/String;)I"⟩, 4), (⟨"ProtocolDesk$Tape", "byteAt", "(I)I"⟩, 4), (⟨"ProtocolDesk$Tape", "fail", "(I)V"⟩, 4), (⟨"ProtocolDesk$Tape", "readBlank", "()V"⟩, 4), (⟨"ProtocolDesk$Tape", "hasMore", "()Z"⟩, 4), (⟨"ProtocolDesk$Tape", "readTests", "(LProtocolDesk$Rule;)V"⟩, 4), (⟨"ProtocolDesk$Tape", "readTest", "(LProtocolDesk$Rule;I)V"⟩, 4), (⟨"ProtocolDesk$Tape", "readNumber", "()I"⟩, 4), (⟨"ProtocolDesk", "areTwo", "(II)Z"⟩, 7)]
theorem lw_r1 : ∀ q ∈ lw_privs_1, lw_okq q := List.forall_mem_cons.mpr ⟨lw_p0, List.forall_mem_cons.mpr ⟨lw_p1, List.forall_mem_cons.mpr ⟨lw_p2, List.forall_mem_cons.mpr ⟨lw_p3, List.forall_mem_cons.mpr ⟨lw_p4, List.forall_mem_cons.mpr ⟨lw_p5, List.forall_mem_cons.mpr ⟨lw_p6, List.forall_mem_cons.mpr ⟨lw_p7, List.forall_mem_cons.mpr ⟨lw_p8, List.forall_mem_cons.mpr ⟨lw_p9, List.forall_mem_cons.mpr ⟨lw_p10, List.forall_mem_cons.mpr ⟨lw_p11, List.forall_mem_cons.mpr ⟨lw_p12, List.forall_mem_cons.mpr ⟨lw_p13, List.forall_mem_cons.mpr ⟨lw_p14, List.forall_mem_cons.mpr ⟨lw_p15, fun _ h => absurd h List.not_mem_nil⟩⟩⟩⟩⟩⟩⟩⟩⟩⟩⟩⟩⟩⟩⟩⟩
theorem lw_p16 : lw_okq (⟨"ProtocolDesk$Rule", "isFor", "(II)Z"⟩, 12) := ⟨⟨by decide +kernel, by decide +kernel⟩, List.mem_of_getElem? (i := 102) (by decide +kernel), List.mem_of_getElem? (i := 609) (by decide +kernel), List.mem_of_getElem? (i := 610) (by decide +kernel)⟩
theorem lw_p17 : lw_okq (⟨"ProtocolDesk$Rule", "holds", "(LProtocolDesk$Roll;II)Z"⟩, 12) := ⟨⟨by decide +kernel, by decide +kernel⟩, List.mem_of_getElem? (i := 102) (by decide +kernel), List.mem_of_getElem? (i := 613) (by decide +kernel), List.mem_of_getElem? (i := 614) (by decide +kernel)⟩
theorem lw_p18 : lw_okq (⟨"ProtocolDesk$Rule", "isAsTold", "(II)Z"⟩, 12) := ⟨⟨by decide +kernel, by decide +kernel⟩, List.mem_of_getElem? (i := 102) (by decide +kernel), List.mem_of_getElem? (i := 617) (by decide +kernel), List.mem_of_getElem? (i := 618) (by decide +kernel)⟩
theorem lw_p19 : lw_okq (⟨"ProtocolDesk$Procession", "takeNext", "()V"⟩, 10) := ⟨⟨by decide +kernel, by decide +kernel⟩, List.mem_of_getElem? (i := 181) (by decide +kernel), List.mem_of_getElem? (i := 673) (by decide +kernel), List.mem_of_getElem? (i := 674) (by decide +kernel)⟩
theorem lw_p20 : lw_okq (⟨"ProtocolDesk$Procession", "leastUnled", "()I"⟩, 10) := ⟨⟨by decide +kernel, by decide +kernel⟩, List.mem_of_getElem? (i := 181) (by decide +kernel), List.mem_of_getElem? (i := 677) (by decide +kernel), List.mem_of_getElem? (i := 678) (by decide +kernel)⟩
theorem lw_p21 : lw_okq (⟨"ProtocolDesk$Procession", "leastAheadOf", "(I)I"⟩, 10) := ⟨⟨by decide +kernel, by decide +kernel⟩, List.mem_of_getElem? (i := 181) (by decide +kernel), List.mem_of_getElem? (i := 681) (by decide +kernel), List.mem_of_getElem? (i := 682) (by decide +kernel)⟩
theorem lw_p22 : lw_okq (⟨"ProtocolDesk$Procession", "leastLeft", "()I"⟩, 10) := ⟨⟨by decide +kernel, by decide +kernel⟩, List.mem_of_getElem? (i := 181) (by decide +kernel), List.mem_of_getElem? (i := 685) (by decide +kernel), List.mem_of_getElem? (i := 686) (by decide +kernel)⟩
theorem lw_p23 : lw_okq (⟨"ProtocolDesk$Procession", "tellRing", "(I)V"⟩, 10) := ⟨⟨by decide +kernel, by decide +kernel⟩, List.mem_of_getElem? (i := 181) (by decide +kernel), List.mem_of_getElem? (i := 689) (by decide +kernel), List.mem_of_getElem? (i := 690) (by decide +kernel)⟩
theorem lw_p24 : lw_okq (⟨"ProtocolDesk$Roll", "canBeDean", "(I)Z"⟩, 9) := ⟨⟨by decide +kernel, by decide +kernel⟩, List.mem_of_getElem? (i := 29) (by decide +kernel), List.mem_of_getElem? (i := 708) (by decide +kernel), List.mem_of_getElem? (i := 709) (by decide +kernel)⟩
theorem lw_p25 : lw_okq (⟨"ProtocolDesk$Roll", "isElder", "(II)Z"⟩, 9) := ⟨⟨by decide +kernel, by decide +kernel⟩, List.mem_of_getElem? (i := 29) (by decide +kernel), List.mem_of_getElem? (i := 712) (by decide +kernel), List.mem_of_getElem? (i := 713) (by decide +kernel)⟩
theorem lw_p26 : lw_okq (⟨"ProtocolDesk$Hall", "talkCost", "(II)I"⟩, 6) := ⟨⟨by decide +kernel, by decide +kernel⟩, List.mem_of_getElem? (i := 225) (by decide +kernel), List.mem_of_getElem? (i := 795) (by decide +kernel), List.mem_of_getElem? (i := 796) (by decide +kernel)⟩
theorem lw_p27 : lw_okq (⟨"ProtocolDesk$Hall", "tongueOf", "(I)I"⟩, 6) := ⟨⟨by decide +kernel, by decide +kernel⟩, List.mem_of_getElem? (i := 225) (by decide +kernel), List.mem_of_getElem? (i := 799) (by decide +kernel), List.mem_of_getElem? (i := 800) (by decide +kernel)⟩
theorem lw_p28 : lw_okq (⟨"ProtocolDesk$Hall", "areFeuding", "(II)Z"⟩, 6) := ⟨⟨by decide +kernel, by decide +kernel⟩, List.mem_of_getElem? (i := 225) (by decide +kernel), List.mem_of_getElem? (i := 819) (by decide +kernel), List.mem_of_getElem? (i := 820) (by decide +kernel)⟩
theorem lw_p29 : lw_okq (⟨"ProtocolDesk$Hall", "homeOf", "(I)I"⟩, 6) := ⟨⟨by decide +kernel, by decide +kernel⟩, List.mem_of_getElem? (i := 225) (by decide +kernel), List.mem_of_getElem? (i := 823) (by decide +kernel), List.mem_of_getElem? (i := 824) (by decide +kernel)⟩
theorem lw_p30 : lw_okq (⟨"ProtocolDesk$Seating", "gatherGuests", "(I)V"⟩, 7) := ⟨⟨by decide +kernel, by decide +kernel⟩, List.mem_of_getElem? (i := 275) (by decide +kernel), List.mem_of_getElem? (i := 849) (by decide +kernel), List.mem_of_getElem? (i := 850) (by decide +kernel)⟩
theorem lw_p31 : lw_okq (⟨"ProtocolDesk$Seating", "fillFrom", "(LProtocolDesk$Table;II)V"⟩, 7) := ⟨⟨by decide +kernel, by decide +kernel⟩, List.mem_of_getElem? (i := 275) (by decide +kernel), List.mem_of_getElem? (i := 857) (by decide +kernel), List.mem_of_getElem? (i := 858) (by decide +kernel)⟩
def lw_privs_2 : List (MethodName × Nat) := [(⟨"ProtocolDesk$Rule", "isFor", "(II)Z"⟩, 12), (⟨"ProtocolDesk$Rule", "holds", "(LProtocolDesk$Roll;II)Z"⟩, 12), (⟨"ProtocolDesk$Rule", "isAsTold", "(II)Z"⟩, 12), (⟨"ProtocolDesk$Procession", "takeNext", "()V"⟩, 10), (⟨"ProtocolDesk$Procession", "leastUnled", "()I"⟩, 10), (⟨"ProtocolDesk$Procession", "leastAheadOf", "(I)I"⟩, 10), (⟨"ProtocolDesk$Procession", "leastLeft", "()I"⟩, 10), (⟨"ProtocolDesk$Procession", "tellRing", "(I)V"⟩, 10), (⟨"ProtocolDesk$Roll", "canBeDean", "(I)Z"⟩, 9), (⟨"ProtocolDesk$Roll", "isElder", "(II)Z"⟩, 9), (⟨"ProtocolDesk$Hall", "talkCost", "(II)I"⟩, 6), (⟨"ProtocolDesk$Hall", "tongueOf", "(I)I"⟩, 6), (⟨"ProtocolDesk$Hall", "areFeuding", "(II)Z"⟩, 6), (⟨"ProtocolDesk$Hall", "homeOf", "(I)I"⟩, 6), (⟨"ProtocolDesk$Seating", "gatherGuests", "(I)V"⟩, 7), (⟨"ProtocolDesk$Seating", "fillFrom", "(LProtocolDesk$Table;II)V"⟩, 7)]
theorem lw_r2 : ∀ q ∈ lw_privs_2, lw_okq q := List.forall_mem_cons.mpr ⟨lw_p16, List.forall_mem_cons.mpr ⟨lw_p17, List.forall_mem_cons.mpr ⟨lw_p18, List.forall_mem_cons.mpr ⟨lw_p19, List.forall_mem_cons.mpr ⟨lw_p20, List.forall_mem_cons.mpr ⟨lw_p21, List.forall_mem_cons.mpr ⟨lw_p22, List.forall_mem_cons.mpr ⟨lw_p23, List.forall_mem_cons.mpr ⟨lw_p24, List.forall_mem_cons.mpr ⟨lw_p25, List.forall_mem_cons.mpr ⟨lw_p26, List.forall_mem_cons.mpr ⟨lw_p27, List.forall_mem_cons.mpr ⟨lw_p28, List.forall_mem_cons.mpr ⟨lw_p29, List.forall_mem_cons.mpr ⟨lw_p30, List.forall_mem_cons.mpr ⟨lw_p31, fun _ h => absurd h List.not_mem_nil⟩⟩⟩⟩⟩⟩⟩⟩⟩⟩⟩⟩⟩⟩⟩⟩
theorem lw_p32 : lw_okq (⟨"ProtocolDesk$Calls", "isBetween", "(III)Z"⟩, 5) := ⟨⟨by decide +kernel, by decide +kernel⟩, List.mem_of_getElem? (i := 303) (by decide +kernel), List.mem_of_getElem? (i := 886) (by decide +kernel), List.mem_of_getElem? (i := 887) (by decide +kernel)⟩
theorem lw_p33 : lw_okq (⟨"ProtocolDesk$Calls", "remove", "(I)V"⟩, 5) := ⟨⟨by decide +kernel, by decide +kernel⟩, List.mem_of_getElem? (i := 303) (by decide +kernel), List.mem_of_getElem? (i := 890) (by decide +kernel), List.mem_of_getElem? (i := 891) (by decide +kernel)⟩
theorem lw_p34 : lw_okq (⟨"ProtocolDeskModel", "isState", "(I)Z"⟩, 53) := ⟨⟨by decide +kernel, by decide +kernel⟩, List.mem_of_getElem? (i := 927) (by decide +kernel), List.mem_of_getElem? (i := 1107) (by decide +kernel), List.mem_of_getElem? (i := 1108) (by decide +kernel)⟩
theorem lw_p35 : lw_okq (⟨"ProtocolDeskModel", "isPerson", "(I)Z"⟩, 53) := ⟨⟨by decide +kernel, by decide +kernel⟩, List.mem_of_getElem? (i := 927) (by decide +kernel), List.mem_of_getElem? (i := 1111) (by decide +kernel), List.mem_of_getElem? (i := 1112) (by decide +kernel)⟩
theorem lw_p36 : lw_okq (⟨"ProtocolDeskModel", "field", "(II)I"⟩, 53) := ⟨⟨by decide +kernel, by decide +kernel⟩, List.mem_of_getElem? (i := 927) (by decide +kernel), List.mem_of_getElem? (i := 1136) (by decide +kernel), List.mem_of_getElem? (i := 1137) (by decide +kernel)⟩
theorem lw_p37 : lw_okq (⟨"ProtocolDeskModel", "plainRank", "(I)I"⟩, 53) := ⟨⟨by decide +kernel, by decide +kernel⟩, List.mem_of_getElem? (i := 927) (by decide +kernel), List.mem_of_getElem? (i := 1140) (by decide +kernel), List.mem_of_getElem? (i := 1141) (by decide +kernel)⟩
theorem lw_p38 : lw_okq (⟨"ProtocolDeskModel", "read", "(I)V"⟩, 53) := ⟨⟨by decide +kernel, by decide +kernel⟩, List.mem_of_getElem? (i := 927) (by decide +kernel), List.mem_of_getElem? (i := 1161) (by decide +kernel), List.mem_of_getElem? (i := 1162) (by decide +kernel)⟩
theorem lw_p39 : lw_okq (⟨"ProtocolDeskModel", "expect", "(II)V"⟩, 53) := ⟨⟨by decide +kernel, by decide +kernel⟩, List.mem_of_getElem? (i := 927) (by decide +kernel), List.mem_of_getElem? (i := 1166) (by decide +kernel), List.mem_of_getElem? (i := 1167) (by decide +kernel)⟩
theorem lw_p40 : lw_okq (⟨"ProtocolDeskModel", "letter", "()I"⟩, 53) := ⟨⟨by decide +kernel, by decide +kernel⟩, List.mem_of_getElem? (i := 927) (by decide +kernel), List.mem_of_getElem? (i := 1170) (by decide +kernel), List.mem_of_getElem? (i := 1171) (by decide +kernel)⟩
theorem lw_p41 : lw_okq (⟨"ProtocolDeskModel", "word", "(I)I"⟩, 53) := ⟨⟨by decide +kernel, by decide +kernel⟩, List.mem_of_getElem? (i := 927) (by decide +kernel), List.mem_of_getElem? (i := 1177) (by decide +kernel), List.mem_of_getElem? (i := 1178) (by decide +kernel)⟩
theorem lw_p42 : lw_okq (⟨"ProtocolDeskModel", "readTests", "(I)V"⟩, 53) := ⟨⟨by decide +kernel, by decide +kernel⟩, List.mem_of_getElem? (i := 927) (by decide +kernel), List.mem_of_getElem? (i := 1182) (by decide +kernel), List.mem_of_getElem? (i := 1183) (by decide +kernel)⟩
theorem lw_p43 : lw_okq (⟨"ProtocolDeskModel", "readTest", "(I)V"⟩, 53) := ⟨⟨by decide +kernel, by decide +kernel⟩, List.mem_of_getElem? (i := 927) (by decide +kernel), List.mem_of_getElem? (i := 1187) (by decide +kernel), List.mem_of_getElem? (i := 1188) (by decide +kernel)⟩
theorem lw_p44 : lw_okq (⟨"ProtocolDeskModel", "oneOf", "(II)I"⟩, 53) := ⟨⟨by decide +kernel, by decide +kernel⟩, List.mem_of_getElem? (i := 927) (by decide +kernel), List.mem_of_getElem? (i := 1192) (by decide +kernel), List.mem_of_getElem? (i := 1193) (by decide +kernel)⟩
theorem lw_p45 : lw_okq (⟨"ProtocolDeskModel", "isAsked", "(IIII)Z"⟩, 53) := ⟨⟨by decide +kernel, by decide +kernel⟩, List.mem_of_getElem? (i := 927) (by decide +kernel), List.mem_of_getElem? (i := 1207) (by decide +kernel), List.mem_of_getElem? (i := 1208) (by decide +kernel)⟩
theorem lw_p46 : lw_okq (⟨"ProtocolDeskModel", "decided", "(IIIII)I"⟩, 53) := ⟨⟨by decide +kernel, by decide +kernel⟩, List.mem_of_getElem? (i := 927) (by decide +kernel), List.mem_of_getElem? (i := 1211) (by decide +kernel), List.mem_of_getElem? (i := 1212) (by decide +kernel)⟩
theorem lw_p47 : lw_okq (⟨"ProtocolDeskModel", "areTested", "(III)Z"⟩, 53) := ⟨⟨by decide +kernel, by decide +kernel⟩, List.mem_of_getElem? (i := 927) (by decide +kernel), List.mem_of_getElem? (i := 1215) (by decide +kernel), List.mem_of_getElem? (i := 1216) (by decide +kernel)⟩
def lw_privs_3 : List (MethodName × Nat) := [(⟨"ProtocolDesk$Calls", "isBetween", "(III)Z"⟩, 5), (⟨"ProtocolDesk$Calls", "remove", "(I)V"⟩, 5), (⟨"ProtocolDeskModel", "isState", "(I)Z"⟩, 53), (⟨"ProtocolDeskModel", "isPerson", "(I)Z"⟩, 53), (⟨"ProtocolDeskModel", "field", "(II)I"⟩, 53), (⟨"ProtocolDeskModel", "plainRank", "(I)I"⟩, 53), (⟨"ProtocolDeskModel", "read", "(I)V"⟩, 53), (⟨"ProtocolDeskModel", "expect", "(II)V"⟩, 53), (⟨"ProtocolDeskModel", "letter", "()I"⟩, 53), (⟨"ProtocolDeskModel", "word", "(I)I"⟩, 53), (⟨"ProtocolDeskModel", "readTests", "(I)V"⟩, 53), (⟨"ProtocolDeskModel", "readTest", "(I)V"⟩, 53), (⟨"ProtocolDeskModel", "oneOf", "(II)I"⟩, 53), (⟨"ProtocolDeskModel", "isAsked", "(IIII)Z"⟩, 53), (⟨"ProtocolDeskModel", "decided", "(IIIII)I"⟩, 53), (⟨"ProtocolDeskModel", "areTested", "(III)Z"⟩, 53)]
theorem lw_r3 : ∀ q ∈ lw_privs_3, lw_okq q := List.forall_mem_cons.mpr ⟨lw_p32, List.forall_mem_cons.mpr ⟨lw_p33, List.forall_mem_cons.mpr ⟨lw_p34, List.forall_mem_cons.mpr ⟨lw_p35, List.forall_mem_cons.mpr ⟨lw_p36, List.forall_mem_cons.mpr ⟨lw_p37, List.forall_mem_cons.mpr ⟨lw_p38, List.forall_mem_cons.mpr ⟨lw_p39, List.forall_mem_cons.mpr ⟨lw_p40, List.forall_mem_cons.mpr ⟨lw_p41, List.forall_mem_cons.mpr ⟨lw_p42, List.forall_mem_cons.mpr ⟨lw_p43, List.forall_mem_cons.mpr ⟨lw_p44, List.forall_mem_cons.mpr ⟨lw_p45, List.forall_mem_cons.mpr ⟨lw_p46, List.forall_mem_cons.mpr ⟨lw_p47, fun _ h => absurd h List.not_mem_nil⟩⟩⟩⟩⟩⟩⟩⟩⟩⟩⟩⟩⟩⟩⟩⟩
theorem lw_p48 : lw_okq (⟨"ProtocolDeskModel", "holds", "(III)Z"⟩, 53) := ⟨⟨by decide +kernel, by decide +kernel⟩, List.mem_of_getElem? (i := 927) (by decide +kernel), List.mem_of_getElem? (i := 1219) (by decide +kernel), List.mem_of_getElem? (i := 1220) (by decide +kernel)⟩
theorem lw_p49 : lw_okq (⟨"ProtocolDeskModel", "first", "(IIII)I"⟩, 53) := ⟨⟨by decide +kernel, by decide +kernel⟩, List.mem_of_getElem? (i := 927) (by decide +kernel), List.mem_of_getElem? (i := 1231) (by decide +kernel), List.mem_of_getElem? (i := 1232) (by decide +kernel)⟩
theorem lw_p50 : lw_okq (⟨"ProtocolDeskModel", "handOf", "(II)I"⟩, 53) := ⟨⟨by decide +kernel, by decide +kernel⟩, List.mem_of_getElem? (i := 927) (by decide +kernel), List.mem_of_getElem? (i := 1235) (by decide +kernel), List.mem_of_getElem? (i := 1236) (by decide +kernel)⟩
theorem lw_p51 : lw_okq (⟨"ProtocolDeskModel", "goes", "(IIII)I"⟩, 53) := ⟨⟨by decide +kernel, by decide +kernel⟩, List.mem_of_getElem? (i := 927) (by decide +kernel), List.mem_of_getElem? (i := 1239) (by decide +kernel), List.mem_of_getElem? (i := 1240) (by decide +kernel)⟩
theorem lw_p52 : lw_okq (⟨"ProtocolDeskModel", "findOrder", "(II)V"⟩, 53) := ⟨⟨by decide +kernel, by decide +kernel⟩, List.mem_of_getElem? (i := 927) (by decide +kernel), List.mem_of_getElem? (i := 1258) (by decide +kernel), List.mem_of_getElem? (i := 1259) (by decide +kernel)⟩
theorem lw_p53 : lw_okq (⟨"ProtocolDeskModel", "leastAhead", "(III)I"⟩, 53) := ⟨⟨by decide +kernel, by decide +kernel⟩, List.mem_of_getElem? (i := 927) (by decide +kernel), List.mem_of_getElem? (i := 1262) (by decide +kernel), List.mem_of_getElem? (i := 1263) (by decide +kernel)⟩
theorem lw_p54 : lw_okq (⟨"ProtocolDeskModel", "findRing", "(III)V"⟩, 53) := ⟨⟨by decide +kernel, by decide +kernel⟩, List.mem_of_getElem? (i := 927) (by decide +kernel), List.mem_of_getElem? (i := 1266) (by decide +kernel), List.mem_of_getElem? (i := 1267) (by decide +kernel)⟩
theorem lw_p55 : lw_okq (⟨"ProtocolDeskModel", "isTable", "(I)Z"⟩, 53) := ⟨⟨by decide +kernel, by decide +kernel⟩, List.mem_of_getElem? (i := 927) (by decide +kernel), List.mem_of_getElem? (i := 1296) (by decide +kernel), List.mem_of_getElem? (i := 1297) (by decide +kernel)⟩
theorem lw_p56 : lw_okq (⟨"ProtocolDeskModel", "take", "(I)V"⟩, 53) := ⟨⟨by decide +kernel, by decide +kernel⟩, List.mem_of_getElem? (i := 927) (by decide +kernel), List.mem_of_getElem? (i := 1304) (by decide +kernel), List.mem_of_getElem? (i := 1305) (by decide +kernel)⟩
theorem lw_p57 : lw_okq (⟨"ProtocolDeskModel", "priceOf", "(I)I"⟩, 53) := ⟨⟨by decide +kernel, by decide +kernel⟩, List.mem_of_getElem? (i := 927) (by decide +kernel), List.mem_of_getElem? (i := 1308) (by decide +kernel), List.mem_of_getElem? (i := 1309) (by decide +kernel)⟩
theorem lw_p58 : lw_okq (⟨"ProtocolDeskModel", "areBeside", "(II)Z"⟩, 53) := ⟨⟨by decide +kernel, by decide +kernel⟩, List.mem_of_getElem? (i := 927) (by decide +kernel), List.mem_of_getElem? (i := 1315) (by decide +kernel), List.mem_of_getElem? (i := 1316) (by decide +kernel)⟩
theorem lw_p59 : lw_okq (⟨"ProtocolDeskModel", "isKept", "(I)Z"⟩, 53) := ⟨⟨by decide +kernel, by decide +kernel⟩, List.mem_of_getElem? (i := 927) (by decide +kernel), List.mem_of_getElem? (i := 1323) (by decide +kernel), List.mem_of_getElem? (i := 1324) (by decide +kernel)⟩
theorem lw_p60 : lw_okq (⟨"ProtocolDeskModel", "areFeuding", "(II)Z"⟩, 53) := ⟨⟨by decide +kernel, by decide +kernel⟩, List.mem_of_getElem? (i := 927) (by decide +kernel), List.mem_of_getElem? (i := 1327) (by decide +kernel), List.mem_of_getElem? (i := 1328) (by decide +kernel)⟩
theorem lw_p61 : lw_okq (⟨"ProtocolDeskModel", "begin", "(I)I"⟩, 53) := ⟨⟨by decide +kernel, by decide +kernel⟩, List.mem_of_getElem? (i := 927) (by decide +kernel), List.mem_of_getElem? (i := 1338) (by decide +kernel), List.mem_of_getElem? (i := 1339) (by decide +kernel)⟩
theorem lw_p62 : lw_okq (⟨"ProtocolDeskModel", "isNext", "(I)Z"⟩, 53) := ⟨⟨by decide +kernel, by decide +kernel⟩, List.mem_of_getElem? (i := 927) (by decide +kernel), List.mem_of_getElem? (i := 1342) (by decide +kernel), List.mem_of_getElem? (i := 1343) (by decide +kernel)⟩
theorem lw_p63 : lw_okq (⟨"ProtocolDeskModel", "oldest", "(II)I"⟩, 53) := ⟨⟨by decide +kernel, by decide +kernel⟩, List.mem_of_getElem? (i := 927) (by decide +kernel), List.mem_of_getElem? (i := 1358) (by decide +kernel), List.mem_of_getElem? (i := 1359) (by decide +kernel)⟩
def lw_privs_4 : List (MethodName × Nat) := [(⟨"ProtocolDeskModel", "holds", "(III)Z"⟩, 53), (⟨"ProtocolDeskModel", "first", "(IIII)I"⟩, 53), (⟨"ProtocolDeskModel", "handOf", "(II)I"⟩, 53), (⟨"ProtocolDeskModel", "goes", "(IIII)I"⟩, 53), (⟨"ProtocolDeskModel", "findOrder", "(II)V"⟩, 53), (⟨"ProtocolDeskModel", "leastAhead", "(III)I"⟩, 53), (⟨"ProtocolDeskModel", "findRing", "(III)V"⟩, 53), (⟨"ProtocolDeskModel", "isTable", "(I)Z"⟩, 53), (⟨"ProtocolDeskModel", "take", "(I)V"⟩, 53), (⟨"ProtocolDeskModel", "priceOf", "(I)I"⟩, 53), (⟨"ProtocolDeskModel", "areBeside", "(II)Z"⟩, 53), (⟨"ProtocolDeskModel", "isKept", "(I)Z"⟩, 53), (⟨"ProtocolDeskModel", "areFeuding", "(II)Z"⟩, 53), (⟨"ProtocolDeskModel", "begin", "(I)I"⟩, 53), (⟨"ProtocolDeskModel", "isNext", "(I)Z"⟩, 53), (⟨"ProtocolDeskModel", "oldest", "(II)I"⟩, 53)]
theorem lw_r4 : ∀ q ∈ lw_privs_4, lw_okq q := List.forall_mem_cons.mpr ⟨lw_p48, List.forall_mem_cons.mpr ⟨lw_p49, List.forall_mem_cons.mpr ⟨lw_p50, List.forall_mem_cons.mpr ⟨lw_p51, List.forall_mem_cons.mpr ⟨lw_p52, List.forall_mem_cons.mpr ⟨lw_p53, List.forall_mem_cons.mpr ⟨lw_p54, List.forall_mem_cons.mpr ⟨lw_p55, List.forall_mem_cons.mpr ⟨lw_p56, List.forall_mem_cons.mpr ⟨lw_p57, List.forall_mem_cons.mpr ⟨lw_p58, List.forall_mem_cons.mpr ⟨lw_p59, List.forall_mem_cons.mpr ⟨lw_p60, List.forall_mem_cons.mpr ⟨lw_p61, List.forall_mem_cons.mpr ⟨lw_p62, List.forall_mem_cons.mpr ⟨lw_p63, fun _ h => absurd h List.not_mem_nil⟩⟩⟩⟩⟩⟩⟩⟩⟩⟩⟩⟩⟩⟩⟩⟩
theorem lw_p64 : lw_okq (⟨"ProtocolDeskModel", "forget", "(I)V"⟩, 53) := ⟨⟨by decide +kernel, by decide +kernel⟩, List.mem_of_getElem? (i := 927) (by decide +kernel), List.mem_of_getElem? (i := 1362) (by decide +kernel), List.mem_of_getElem? (i := 1363) (by decide +kernel)⟩
def lw_privs_5 : List (MethodName × Nat) := [(⟨"ProtocolDeskModel", "forget", "(I)V"⟩, 53)]
theorem lw_r5 : ∀ q ∈ lw_privs_5, lw_okq q := List.forall_mem_cons.mpr ⟨lw_p64, fun _ h => absurd h List.not_mem_nil⟩
def lw_privs : List (MethodName × Nat) := lw_privs_1 ++ (lw_privs_2 ++ (lw_privs_3 ++ (lw_privs_4 ++ (lw_privs_5))))
def lw_tbl : List Cond := k2_sels lw_privs ++ tables_1
theorem lw_privs_ok : ∀ q ∈ lw_privs, lw_okq q := by
  show ∀ q ∈ lw_privs_1 ++ (lw_privs_2 ++ (lw_privs_3 ++ (lw_privs_4 ++ (lw_privs_5)))), lw_okq q
  exact List.forall_mem_append.mpr ⟨lw_r1, List.forall_mem_append.mpr ⟨lw_r2, List.forall_mem_append.mpr ⟨lw_r3, List.forall_mem_append.mpr ⟨lw_r4, lw_r5⟩⟩⟩⟩
end
section
def RX0 : String := "ProtocolDesk$Calls"
def TX0 : u_T := fun k => match k with
  | 0 => ("ProtocolDesk$Calls", "size", "I", false)
  | 1 => ("ProtocolDesk$Calls", "daysAllowed", "I", false)
  | 2 => ("ProtocolDesk$Calls", "creditors", "[I", true)
  | 3 => ("ProtocolDesk$Calls", "debtors", "[I", true)
  | _ => ("ProtocolDesk$Calls", "days", "[I", true)
def tyX0 : Nat → FieldType := fun k => match k with
  | 0 => .int
  | 1 => .int
  | 2 => .array .int
  | 3 => .array .int
  | _ => .array .int
abbrev wsX00 : List Cond := u_ws RX0 TX0 5
theorem nmX0 : ∀ a, a < 5 → ∀ b, b < 5 → a ≠ b → (TX0 a).2.1 ≠ (TX0 b).2.1 := by decide +kernel
theorem tyX0_ok : ∀ k, k < 5 → parseFieldDescriptor (TX0 k).2.2.1 = some (tyX0 k) := by decide +kernel
abbrev cX0_init : ByteArray := prog_2_method_1_code
def yX0_init : MethodName := ⟨RX0, "<init>", "()V"⟩
abbrev cX0_add : ByteArray := prog_2_method_2_code
def yX0_add : MethodName := ⟨RX0, "add", "(III)V"⟩
abbrev cX0_settleOldest : ByteArray := prog_2_method_3_code
def yX0_settleOldest : MethodName := ⟨RX0, "settleOldest", "(II)Z"⟩
abbrev cX0_settleAll : ByteArray := prog_2_method_4_code
def yX0_settleAll : MethodName := ⟨RX0, "settleAll", "(II)I"⟩
abbrev cX0_find : ByteArray := prog_2_method_5_code
def yX0_find : MethodName := ⟨RX0, "find", "(II)I"⟩
abbrev cX0_isLate : ByteArray := prog_2_method_6_code
def yX0_isLate : MethodName := ⟨RX0, "isLate", "(II)Z"⟩
abbrev cX0_isBetween : ByteArray := prog_2_method_7_code
def yX0_isBetween : MethodName := ⟨RX0, "isBetween", "(III)Z"⟩
abbrev cX0_remove : ByteArray := prog_2_method_8_code
def yX0_remove : MethodName := ⟨RX0, "remove", "(I)V"⟩
def RX1 : String := "ProtocolDesk$Hall"
def TX1 : u_T := fun k => match k with
  | 0 => ("ProtocolDesk$Hall", "size", "I", false)
  | 1 => ("ProtocolDesk$Hall", "tables", "[LProtocolDesk$Table;", true)
  | 2 => ("ProtocolDesk$Hall", "feuds", "[[I", true)
  | 3 => ("ProtocolDesk$Hall", "costs", "[[I", true)
  | 4 => ("ProtocolDesk$Hall", "placeOf", "[I", true)
  | _ => ("ProtocolDesk$Hall", "roll", "LProtocolDesk$Roll;", true)
def tyX1 : Nat → FieldType := fun k => match k with
  | 0 => .int
  | 1 => .array (.object "ProtocolDesk$Table")
  | 2 => .array (.array .int)
  | 3 => .array (.array .int)
  | 4 => .array .int
  | _ => .object "ProtocolDesk$Roll"
abbrev wsX10 : List Cond := u_ws RX1 TX1 6
theorem nmX1 : ∀ a, a < 6 → ∀ b, b < 6 → a ≠ b → (TX1 a).2.1 ≠ (TX1 b).2.1 := by decide +kernel
theorem tyX1_ok : ∀ k, k < 6 → parseFieldDescriptor (TX1 k).2.2.1 = some (tyX1 k) := by decide +kernel
abbrev cX1_init : ByteArray := prog_3_method_1_code
def yX1_init : MethodName := ⟨RX1, "<init>", "(LProtocolDesk$Roll;)V"⟩
abbrev cX1_hasTable : ByteArray := prog_3_method_2_code
def yX1_hasTable : MethodName := ⟨RX1, "hasTable", "(I)Z"⟩
abbrev cX1_hasSeat : ByteArray := prog_3_method_3_code
def yX1_hasSeat : MethodName := ⟨RX1, "hasSeat", "(II)Z"⟩
abbrev cX1_addTable : ByteArray := prog_3_method_4_code
def yX1_addTable : MethodName := ⟨RX1, "addTable", "(ZI)I"⟩
abbrev cX1_setFeud : ByteArray := prog_3_method_5_code
def yX1_setFeud : MethodName := ⟨RX1, "setFeud", "(III)I"⟩
abbrev cX1_setCost : ByteArray := prog_3_method_6_code
def yX1_setCost : MethodName := ⟨RX1, "setCost", "(III)I"⟩
abbrev cX1_emptySeatsOf : ByteArray := prog_3_method_7_code
def yX1_emptySeatsOf : MethodName := ⟨RX1, "emptySeatsOf", "(I)V"⟩
abbrev cX1_numberPlaces : ByteArray := prog_3_method_8_code
def yX1_numberPlaces : MethodName := ⟨RX1, "numberPlaces", "(LProtocolDesk$Procession;I)V"⟩
abbrev cX1_priceOf : ByteArray := prog_3_method_9_code
def yX1_priceOf : MethodName := ⟨RX1, "priceOf", "(LProtocolDesk$Table;LProtocolDesk$Procession;)I"⟩
abbrev cX1_isPeaceful : ByteArray := prog_3_method_10_code
def yX1_isPeaceful : MethodName := ⟨RX1, "isPeaceful", "(LProtocolDesk$Table;)Z"⟩
abbrev cX1_priceAt : ByteArray := prog_3_method_11_code
def yX1_priceAt : MethodName := ⟨RX1, "priceAt", "(LProtocolDesk$Table;[II)I"⟩
abbrev cX1_isPeacefulAt : ByteArray := prog_3_method_12_code
def yX1_isPeacefulAt : MethodName := ⟨RX1, "isPeacefulAt", "(LProtocolDesk$Table;[II)Z"⟩
abbrev cX1_sitterAt : ByteArray := prog_3_method_13_code
def yX1_sitterAt : MethodName := ⟨RX1, "sitterAt", "([II)I"⟩
abbrev cX1_talkCost : ByteArray := prog_3_method_14_code
def yX1_talkCost : MethodName := ⟨RX1, "talkCost", "(II)I"⟩
abbrev cX1_areFeuding : ByteArray := prog_3_method_15_code
def yX1_areFeuding : MethodName := ⟨RX1, "areFeuding", "(II)Z"⟩
abbrev cX1_tongueOf : ByteArray := prog_3_method_16_code
def yX1_tongueOf : MethodName := ⟨RX1, "tongueOf", "(I)I"⟩
abbrev cX1_homeOf : ByteArray := prog_3_method_17_code
def yX1_homeOf : MethodName := ⟨RX1, "homeOf", "(I)I"⟩
def RX2 : String := "ProtocolDesk$Procession"
def TX2 : u_T := fun k => match k with
  | 0 => ("ProtocolDesk$Procession", "length", "I", false)
  | 1 => ("ProtocolDesk$Procession", "ringLength", "I", false)
  | 2 => ("ProtocolDesk$Procession", "places", "[I", true)
  | 3 => ("ProtocolDesk$Procession", "firstRing", "[I", true)
  | 4 => ("ProtocolDesk$Procession", "left", "[Z", true)
  | 5 => ("ProtocolDesk$Procession", "walk", "[I", true)
  | 6 => ("ProtocolDesk$Procession", "stepOf", "[I", true)
  | 7 => ("ProtocolDesk$Procession", "leads", "[[I", true)
  | 8 => ("ProtocolDesk$Procession", "roll", "LProtocolDesk$Roll;", true)
  | _ => ("ProtocolDesk$Procession", "book", "LProtocolDesk$Rulebook;", true)
def tyX2 : Nat → FieldType := fun k => match k with
  | 0 => .int
  | 1 => .int
  | 2 => .array .int
  | 3 => .array .int
  | 4 => .array .boolean
  | 5 => .array .int
  | 6 => .array .int
  | 7 => .array (.array .int)
  | 8 => .object "ProtocolDesk$Roll"
  | _ => .object "ProtocolDesk$Rulebook"
abbrev wsX20 : List Cond := u_ws RX2 TX2 10
theorem nmX2 : ∀ a, a < 10 → ∀ b, b < 10 → a ≠ b → (TX2 a).2.1 ≠ (TX2 b).2.1 := by decide +kernel
theorem tyX2_ok : ∀ k, k < 10 → parseFieldDescriptor (TX2 k).2.2.1 = some (tyX2 k) := by decide +kernel
abbrev cX2_init : ByteArray := prog_4_method_1_code
def yX2_init : MethodName := ⟨RX2, "<init>", "(LProtocolDesk$Roll;LProtocolDesk$Rulebook;)V"⟩
abbrev cX2_form : ByteArray := prog_4_method_2_code
def yX2_form : MethodName := ⟨RX2, "form", "(II)V"⟩
abbrev cX2_takeNext : ByteArray := prog_4_method_3_code
def yX2_takeNext : MethodName := ⟨RX2, "takeNext", "()V"⟩
abbrev cX2_leastLeft : ByteArray := prog_4_method_4_code
def yX2_leastLeft : MethodName := ⟨RX2, "leastLeft", "()I"⟩
abbrev cX2_leastUnled : ByteArray := prog_4_method_5_code
def yX2_leastUnled : MethodName := ⟨RX2, "leastUnled", "()I"⟩
abbrev cX2_leastAheadOf : ByteArray := prog_4_method_6_code
def yX2_leastAheadOf : MethodName := ⟨RX2, "leastAheadOf", "(I)I"⟩
abbrev cX2_tellRing : ByteArray := prog_4_method_7_code
def yX2_tellRing : MethodName := ⟨RX2, "tellRing", "(I)V"⟩
def RX3 : String := "ProtocolDesk$Roll"
def TX3 : u_T := fun k => match k with
  | 0 => ("ProtocolDesk$Roll", "states", "I", false)
  | 1 => ("ProtocolDesk$Roll", "persons", "I", false)
  | 2 => ("ProtocolDesk$Roll", "present", "[I", true)
  | 3 => ("ProtocolDesk$Roll", "principals", "[I", true)
  | 4 => ("ProtocolDesk$Roll", "fields", "[[I", true)
  | 5 => ("ProtocolDesk$Roll", "names", "[I", true)
  | 6 => ("ProtocolDesk$Roll", "tongues", "[I", true)
  | 7 => ("ProtocolDesk$Roll", "ranks", "[I", true)
  | _ => ("ProtocolDesk$Roll", "papers", "[I", true)
def tyX3 : Nat → FieldType := fun k => match k with
  | 0 => .int
  | 1 => .int
  | 2 => .array .int
  | 3 => .array .int
  | 4 => .array (.array .int)
  | 5 => .array .int
  | 6 => .array .int
  | 7 => .array .int
  | _ => .array .int
abbrev wsX30 : List Cond := u_ws RX3 TX3 9
theorem nmX3 : ∀ a, a < 9 → ∀ b, b < 9 → a ≠ b → (TX3 a).2.1 ≠ (TX3 b).2.1 := by decide +kernel
theorem tyX3_ok : ∀ k, k < 9 → parseFieldDescriptor (TX3 k).2.2.1 = some (tyX3 k) := by decide +kernel
abbrev cX3_init : ByteArray := prog_5_method_1_code
def yX3_init : MethodName := ⟨RX3, "<init>", "()V"⟩
abbrev cX3_isTongue : ByteArray := prog_5_method_2_code
def yX3_isTongue : MethodName := ⟨RX3, "isTongue", "(I)Z"⟩
abbrev cX3_isStateAsTold : ByteArray := prog_5_method_3_code
def yX3_isStateAsTold : MethodName := ⟨RX3, "isStateAsTold", "(II)Z"⟩
abbrev cX3_isPersonAsTold : ByteArray := prog_5_method_4_code
def yX3_isPersonAsTold : MethodName := ⟨RX3, "isPersonAsTold", "(III)Z"⟩
abbrev cX3_isOfAnother : ByteArray := prog_5_method_5_code
def yX3_isOfAnother : MethodName := ⟨RX3, "isOfAnother", "(I)Z"⟩
abbrev cX3_hasState : ByteArray := prog_5_method_6_code
def yX3_hasState : MethodName := ⟨RX3, "hasState", "(I)Z"⟩
abbrev cX3_hasPerson : ByteArray := prog_5_method_7_code
def yX3_hasPerson : MethodName := ⟨RX3, "hasPerson", "(I)Z"⟩
abbrev cX3_canBeOf : ByteArray := prog_5_method_8_code
def yX3_canBeOf : MethodName := ⟨RX3, "canBeOf", "(II)Z"⟩
abbrev cX3_isSetOfPersons : ByteArray := prog_5_method_9_code
def yX3_isSetOfPersons : MethodName := ⟨RX3, "isSetOfPersons", "(I)Z"⟩
abbrev cX3_addState : ByteArray := prog_5_method_10_code
def yX3_addState : MethodName := ⟨RX3, "addState", "(II)I"⟩
abbrev cX3_addPerson : ByteArray := prog_5_method_11_code
def yX3_addPerson : MethodName := ⟨RX3, "addPerson", "(IIIII)I"⟩
abbrev cX3_handPaper : ByteArray := prog_5_method_12_code
def yX3_handPaper : MethodName := ⟨RX3, "handPaper", "(II)I"⟩
abbrev cX3_moveHome : ByteArray := prog_5_method_13_code
def yX3_moveHome : MethodName := ⟨RX3, "moveHome", "(III)V"⟩
abbrev cX3_setHome : ByteArray := prog_5_method_14_code
def yX3_setHome : MethodName := ⟨RX3, "setHome", "(II)V"⟩
abbrev cX3_refreshFields : ByteArray := prog_5_method_15_code
def yX3_refreshFields : MethodName := ⟨RX3, "refreshFields", "(I)V"⟩
abbrev cX3_isOfKind : ByteArray := prog_5_method_16_code
def yX3_isOfKind : MethodName := ⟨RX3, "isOfKind", "(II)Z"⟩
abbrev cX3_isIn : ByteArray := prog_5_method_17_code
def yX3_isIn : MethodName := ⟨RX3, "isIn", "(II)Z"⟩
abbrev cX3_areAllPresent : ByteArray := prog_5_method_18_code
def yX3_areAllPresent : MethodName := ⟨RX3, "areAllPresent", "(I)Z"⟩
abbrev cX3_countPresent : ByteArray := prog_5_method_19_code
def yX3_countPresent : MethodName := ⟨RX3, "countPresent", "()I"⟩
abbrev cX3_rankOf : ByteArray := prog_5_method_20_code
def yX3_rankOf : MethodName := ⟨RX3, "rankOf", "(I)I"⟩
abbrev cX3_ownRankOf : ByteArray := prog_5_method_21_code
def yX3_ownRankOf : MethodName := ⟨RX3, "ownRankOf", "(I)I"⟩
abbrev cX3_paperOf : ByteArray := prog_5_method_22_code
def yX3_paperOf : MethodName := ⟨RX3, "paperOf", "(I)I"⟩
abbrev cX3_eldestWithPaper : ByteArray := prog_5_method_23_code
def yX3_eldestWithPaper : MethodName := ⟨RX3, "eldestWithPaper", "()I"⟩
abbrev cX3_canBeDean : ByteArray := prog_5_method_24_code
def yX3_canBeDean : MethodName := ⟨RX3, "canBeDean", "(I)Z"⟩
abbrev cX3_isElder : ByteArray := prog_5_method_25_code
def yX3_isElder : MethodName := ⟨RX3, "isElder", "(II)Z"⟩
def RX4 : String := "ProtocolDesk$Rule"
def TX4 : u_T := fun k => match k with
  | 0 => ("ProtocolDesk$Rule", "occasion", "I", false)
  | 1 => ("ProtocolDesk$Rule", "key", "I", false)
  | 2 => ("ProtocolDesk$Rule", "down", "Z", false)
  | 3 => ("ProtocolDesk$Rule", "oneSuffices", "Z", false)
  | 4 => ("ProtocolDesk$Rule", "tests", "I", false)
  | 5 => ("ProtocolDesk$Rule", "first", "I", false)
  | 6 => ("ProtocolDesk$Rule", "end", "I", false)
  | 7 => ("ProtocolDesk$Rule", "negated", "[Z", true)
  | 8 => ("ProtocolDesk$Rule", "ofSecond", "[Z", true)
  | 9 => ("ProtocolDesk$Rule", "fields", "[I", true)
  | 10 => ("ProtocolDesk$Rule", "signs", "[I", true)
  | _ => ("ProtocolDesk$Rule", "numbers", "[I", true)
def tyX4 : Nat → FieldType := fun k => match k with
  | 0 => .int
  | 1 => .int
  | 2 => .boolean
  | 3 => .boolean
  | 4 => .int
  | 5 => .int
  | 6 => .int
  | 7 => .array .boolean
  | 8 => .array .boolean
  | 9 => .array .int
  | 10 => .array .int
  | _ => .array .int
abbrev wsX40 : List Cond := u_ws RX4 TX4 12
theorem nmX4 : ∀ a, a < 12 → ∀ b, b < 12 → a ≠ b → (TX4 a).2.1 ≠ (TX4 b).2.1 := by decide +kernel
theorem tyX4_ok : ∀ k, k < 12 → parseFieldDescriptor (TX4 k).2.2.1 = some (tyX4 k) := by decide +kernel
abbrev cX4_init : ByteArray := prog_6_method_1_code
def yX4_init : MethodName := ⟨RX4, "<init>", "()V"⟩
abbrev cX4_isFor : ByteArray := prog_6_method_2_code
def yX4_isFor : MethodName := ⟨RX4, "isFor", "(II)Z"⟩
abbrev cX4_verdict : ByteArray := prog_6_method_3_code
def yX4_verdict : MethodName := ⟨RX4, "verdict", "(LProtocolDesk$Roll;IIII)I"⟩
abbrev cX4_holds : ByteArray := prog_6_method_4_code
def yX4_holds : MethodName := ⟨RX4, "holds", "(LProtocolDesk$Roll;II)Z"⟩
abbrev cX4_isAsTold : ByteArray := prog_6_method_5_code
def yX4_isAsTold : MethodName := ⟨RX4, "isAsTold", "(II)Z"⟩
def RX5 : String := "ProtocolDesk$Rulebook"
def TX5 : u_T := fun k => match k with
  | 0 => ("ProtocolDesk$Rulebook", "size", "I", false)
  | 1 => ("ProtocolDesk$Rulebook", "hands", "I", false)
  | 2 => ("ProtocolDesk$Rulebook", "rules", "[LProtocolDesk$Rule;", true)
  | 3 => ("ProtocolDesk$Rulebook", "handFirst", "[I", true)
  | 4 => ("ProtocolDesk$Rulebook", "handSecond", "[I", true)
  | _ => ("ProtocolDesk$Rulebook", "roll", "LProtocolDesk$Roll;", true)
def tyX5 : Nat → FieldType := fun k => match k with
  | 0 => .int
  | 1 => .int
  | 2 => .array (.object "ProtocolDesk$Rule")
  | 3 => .array .int
  | 4 => .array .int
  | _ => .object "ProtocolDesk$Roll"
abbrev wsX50 : List Cond := u_ws RX5 TX5 6
theorem nmX5 : ∀ a, a < 6 → ∀ b, b < 6 → a ≠ b → (TX5 a).2.1 ≠ (TX5 b).2.1 := by decide +kernel
theorem tyX5_ok : ∀ k, k < 6 → parseFieldDescriptor (TX5 k).2.2.1 = some (tyX5 k) := by decide +kernel
abbrev cX5_init : ByteArray := prog_7_method_1_code
def yX5_init : MethodName := ⟨RX5, "<init>", "(LProtocolDesk$Roll;)V"⟩
abbrev cX5_hasRule : ByteArray := prog_7_method_2_code
def yX5_hasRule : MethodName := ⟨RX5, "hasRule", "(I)Z"⟩
abbrev cX5_addHand : ByteArray := prog_7_method_3_code
def yX5_addHand : MethodName := ⟨RX5, "addHand", "(II)I"⟩
abbrev cX5_toldByHand : ByteArray := prog_7_method_4_code
def yX5_toldByHand : MethodName := ⟨RX5, "toldByHand", "(II)I"⟩
abbrev cX5_leader : ByteArray := prog_7_method_5_code
def yX5_leader : MethodName := ⟨RX5, "leader", "(IIII)I"⟩
abbrev cX5_goingRule : ByteArray := prog_7_method_6_code
def yX5_goingRule : MethodName := ⟨RX5, "goingRule", "(IIII)I"⟩
abbrev cX5_contraryRule : ByteArray := prog_7_method_7_code
def yX5_contraryRule : MethodName := ⟨RX5, "contraryRule", "(IIII)I"⟩
def RX6 : String := "ProtocolDesk$Seating"
def TX6 : u_T := fun k => match k with
  | 0 => ("ProtocolDesk$Seating", "guests", "[I", true)
  | 1 => ("ProtocolDesk$Seating", "seated", "[Z", true)
  | 2 => ("ProtocolDesk$Seating", "row", "[I", true)
  | 3 => ("ProtocolDesk$Seating", "bestRow", "[I", true)
  | 4 => ("ProtocolDesk$Seating", "hall", "LProtocolDesk$Hall;", true)
  | 5 => ("ProtocolDesk$Seating", "guestCount", "I", false)
  | _ => ("ProtocolDesk$Seating", "bestPrice", "I", false)
def tyX6 : Nat → FieldType := fun k => match k with
  | 0 => .array .int
  | 1 => .array .boolean
  | 2 => .array .int
  | 3 => .array .int
  | 4 => .object "ProtocolDesk$Hall"
  | 5 => .int
  | _ => .int
abbrev wsX60 : List Cond := u_ws RX6 TX6 7
theorem nmX6 : ∀ a, a < 7 → ∀ b, b < 7 → a ≠ b → (TX6 a).2.1 ≠ (TX6 b).2.1 := by decide +kernel
theorem tyX6_ok : ∀ k, k < 7 → parseFieldDescriptor (TX6 k).2.2.1 = some (tyX6 k) := by decide +kernel
abbrev cX6_init : ByteArray := prog_8_method_1_code
def yX6_init : MethodName := ⟨RX6, "<init>", "(LProtocolDesk$Hall;)V"⟩
abbrev cX6_arrange : ByteArray := prog_8_method_2_code
def yX6_arrange : MethodName := ⟨RX6, "arrange", "(LProtocolDesk$Table;LProtocolDesk$Procession;I)I"⟩
abbrev cX6_gatherGuests : ByteArray := prog_8_method_3_code
def yX6_gatherGuests : MethodName := ⟨RX6, "gatherGuests", "(I)V"⟩
abbrev cX6_fillFrom : ByteArray := prog_8_method_4_code
def yX6_fillFrom : MethodName := ⟨RX6, "fillFrom", "(LProtocolDesk$Table;II)V"⟩
def RX7 : String := "ProtocolDesk$Table"
def TX7 : u_T := fun k => match k with
  | 0 => ("ProtocolDesk$Table", "size", "I", false)
  | 1 => ("ProtocolDesk$Table", "sitters", "[I", true)
  | _ => ("ProtocolDesk$Table", "round", "Z", false)
def tyX7 : Nat → FieldType := fun k => match k with
  | 0 => .int
  | 1 => .array .int
  | _ => .boolean
abbrev wsX70 : List Cond := u_ws RX7 TX7 3
theorem nmX7 : ∀ a, a < 3 → ∀ b, b < 3 → a ≠ b → (TX7 a).2.1 ≠ (TX7 b).2.1 := by decide +kernel
theorem tyX7_ok : ∀ k, k < 3 → parseFieldDescriptor (TX7 k).2.2.1 = some (tyX7 k) := by decide +kernel
abbrev cX7_init : ByteArray := prog_9_method_1_code
def yX7_init : MethodName := ⟨RX7, "<init>", "()V"⟩
abbrev cX7_open : ByteArray := prog_9_method_2_code
def yX7_open : MethodName := ⟨RX7, "open", "(ZI)V"⟩
abbrev cX7_lowerBeside : ByteArray := prog_9_method_3_code
def yX7_lowerBeside : MethodName := ⟨RX7, "lowerBeside", "(I)I"⟩
abbrev cX7_lowerAround : ByteArray := prog_9_method_4_code
def yX7_lowerAround : MethodName := ⟨RX7, "lowerAround", "(I)I"⟩
abbrev cX7_lowerFacing : ByteArray := prog_9_method_5_code
def yX7_lowerFacing : MethodName := ⟨RX7, "lowerFacing", "(I)I"⟩
abbrev cX7_put : ByteArray := prog_9_method_6_code
def yX7_put : MethodName := ⟨RX7, "put", "(II)I"⟩
abbrev cX7_removePerson : ByteArray := prog_9_method_7_code
def yX7_removePerson : MethodName := ⟨RX7, "removePerson", "(I)V"⟩
abbrev cX7_moveUp : ByteArray := prog_9_method_8_code
def yX7_moveUp : MethodName := ⟨RX7, "moveUp", "()I"⟩
abbrev cX7_sittersAsSet : ByteArray := prog_9_method_9_code
def yX7_sittersAsSet : MethodName := ⟨RX7, "sittersAsSet", "()I"⟩
def RX8 : String := "ProtocolDesk$Tape"
def TX8 : u_T := fun k => match k with
  | 0 => ("ProtocolDesk$Tape", "length", "I", false)
  | 1 => ("ProtocolDesk$Tape", "bytes", "[I", true)
  | 2 => ("ProtocolDesk$Tape", "at", "I", false)
  | _ => ("ProtocolDesk$Tape", "fault", "I", false)
def tyX8 : Nat → FieldType := fun k => match k with
  | 0 => .int
  | 1 => .array .int
  | 2 => .int
  | _ => .int
abbrev wsX80 : List Cond := u_ws RX8 TX8 4
theorem nmX8 : ∀ a, a < 4 → ∀ b, b < 4 → a ≠ b → (TX8 a).2.1 ≠ (TX8 b).2.1 := by decide +kernel
theorem tyX8_ok : ∀ k, k < 4 → parseFieldDescriptor (TX8 k).2.2.1 = some (tyX8 k) := by decide +kernel
abbrev cX8_init : ByteArray := prog_10_method_1_code
def yX8_init : MethodName := ⟨RX8, "<init>", "()V"⟩
abbrev cX8_append : ByteArray := prog_10_method_2_code
def yX8_append : MethodName := ⟨RX8, "append", "(JI)I"⟩
abbrev cX8_clear : ByteArray := prog_10_method_3_code
def yX8_clear : MethodName := ⟨RX8, "clear", "()I"⟩
abbrev cX8_readInto : ByteArray := prog_10_method_4_code
def yX8_readInto : MethodName := ⟨RX8, "readInto", "(LProtocolDesk$Rule;)I"⟩
abbrev cX8_readHead : ByteArray := prog_10_method_5_code
def yX8_readHead : MethodName := ⟨RX8, "readHead", "(LProtocolDesk$Rule;)V"⟩
abbrev cX8_readTests : ByteArray := prog_10_method_6_code
def yX8_readTests : MethodName := ⟨RX8, "readTests", "(LProtocolDesk$Rule;)V"⟩
abbrev cX8_readTest : ByteArray := prog_10_method_7_code
def yX8_readTest : MethodName := ⟨RX8, "readTest", "(LProtocolDesk$Rule;I)V"⟩
abbrev cX8_readWord : ByteArray := prog_10_method_8_code
def yX8_readWord : MethodName := ⟨RX8, "readWord", "(Ljava/lang/String;)I"⟩
abbrev cX8_readBlank : ByteArray := prog_10_method_9_code
def yX8_readBlank : MethodName := ⟨RX8, "readBlank", "()V"⟩
abbrev cX8_readNumber : ByteArray := prog_10_method_10_code
def yX8_readNumber : MethodName := ⟨RX8, "readNumber", "()I"⟩
abbrev cX8_isDigit : ByteArray := prog_10_method_11_code
def yX8_isDigit : MethodName := ⟨RX8, "isDigit", "(I)Z"⟩
abbrev cX8_byteAt : ByteArray := prog_10_method_12_code
def yX8_byteAt : MethodName := ⟨RX8, "byteAt", "(I)I"⟩
abbrev cX8_hasMore : ByteArray := prog_10_method_13_code
def yX8_hasMore : MethodName := ⟨RX8, "hasMore", "()Z"⟩
abbrev cX8_fail : ByteArray := prog_10_method_14_code
def yX8_fail : MethodName := ⟨RX8, "fail", "(I)V"⟩
def RX9 : String := "ProtocolDesk"
def TX9 : u_T := fun k => match k with
  | 0 => ("ProtocolDesk", "roll", "LProtocolDesk$Roll;", true)
  | 1 => ("ProtocolDesk", "tape", "LProtocolDesk$Tape;", true)
  | 2 => ("ProtocolDesk", "book", "LProtocolDesk$Rulebook;", true)
  | 3 => ("ProtocolDesk", "procession", "LProtocolDesk$Procession;", true)
  | 4 => ("ProtocolDesk", "hall", "LProtocolDesk$Hall;", true)
  | 5 => ("ProtocolDesk", "seating", "LProtocolDesk$Seating;", true)
  | _ => ("ProtocolDesk", "calls", "LProtocolDesk$Calls;", true)
def tyX9 : Nat → FieldType := fun k => match k with
  | 0 => .object "ProtocolDesk$Roll"
  | 1 => .object "ProtocolDesk$Tape"
  | 2 => .object "ProtocolDesk$Rulebook"
  | 3 => .object "ProtocolDesk$Procession"
  | 4 => .object "ProtocolDesk$Hall"
  | 5 => .object "ProtocolDesk$Seating"
  | _ => .object "ProtocolDesk$Calls"
abbrev wsX90 : List Cond := u_ws RX9 TX9 7
theorem nmX9 : ∀ a, a < 7 → ∀ b, b < 7 → a ≠ b → (TX9 a).2.1 ≠ (TX9 b).2.1 := by decide +kernel
theorem tyX9_ok : ∀ k, k < 7 → parseFieldDescriptor (TX9 k).2.2.1 = some (tyX9 k) := by decide +kernel
abbrev cX9_init : ByteArray := prog_1_method_1_code
def yX9_init : MethodName := ⟨RX9, "<init>", "()V"⟩
abbrev cX9_state : ByteArray := prog_1_method_2_code
def yX9_state : MethodName := ⟨RX9, "state", "(II)I"⟩
abbrev cX9_person : ByteArray := prog_1_method_3_code
def yX9_person : MethodName := ⟨RX9, "person", "(IIIII)I"⟩
abbrev cX9_paper : ByteArray := prog_1_method_4_code
def yX9_paper : MethodName := ⟨RX9, "paper", "(II)I"⟩
abbrev cX9_there : ByteArray := prog_1_method_5_code
def yX9_there : MethodName := ⟨RX9, "there", "(II)I"⟩
abbrev cX9_split : ByteArray := prog_1_method_6_code
def yX9_split : MethodName := ⟨RX9, "split", "(IIII)I"⟩
abbrev cX9_about : ByteArray := prog_1_method_7_code
def yX9_about : MethodName := ⟨RX9, "about", "(II)I"⟩
abbrev cX9_feed : ByteArray := prog_1_method_8_code
def yX9_feed : MethodName := ⟨RX9, "feed", "(JI)I"⟩
abbrev cX9_wipe : ByteArray := prog_1_method_9_code
def yX9_wipe : MethodName := ⟨RX9, "wipe", "()I"⟩
abbrev cX9_rule : ByteArray := prog_1_method_10_code
def yX9_rule : MethodName := ⟨RX9, "rule", "(II)I"⟩
abbrev cX9_ends : ByteArray := prog_1_method_11_code
def yX9_ends : MethodName := ⟨RX9, "ends", "(II)I"⟩
abbrev cX9_decides : ByteArray := prog_1_method_12_code
def yX9_decides : MethodName := ⟨RX9, "decides", "(IIIII)I"⟩
abbrev cX9_hand : ByteArray := prog_1_method_13_code
def yX9_hand : MethodName := ⟨RX9, "hand", "(II)I"⟩
abbrev cX9_ahead : ByteArray := prog_1_method_14_code
def yX9_ahead : MethodName := ⟨RX9, "ahead", "(IIII)I"⟩
abbrev cX9_why : ByteArray := prog_1_method_15_code
def yX9_why : MethodName := ⟨RX9, "why", "(IIII)I"⟩
abbrev cX9_quarrel : ByteArray := prog_1_method_16_code
def yX9_quarrel : MethodName := ⟨RX9, "quarrel", "(IIII)I"⟩
abbrev cX9_order : ByteArray := prog_1_method_17_code
def yX9_order : MethodName := ⟨RX9, "order", "(III)I"⟩
abbrev cX9_ring : ByteArray := prog_1_method_18_code
def yX9_ring : MethodName := ⟨RX9, "ring", "(III)I"⟩
abbrev cX9_dean : ByteArray := prog_1_method_19_code
def yX9_dean : MethodName := ⟨RX9, "dean", "()I"⟩
abbrev cX9_table : ByteArray := prog_1_method_20_code
def yX9_table : MethodName := ⟨RX9, "table", "(II)I"⟩
abbrev cX9_feud : ByteArray := prog_1_method_21_code
def yX9_feud : MethodName := ⟨RX9, "feud", "(III)I"⟩
abbrev cX9_talk : ByteArray := prog_1_method_22_code
def yX9_talk : MethodName := ⟨RX9, "talk", "(III)I"⟩
abbrev cX9_sit : ByteArray := prog_1_method_23_code
def yX9_sit : MethodName := ⟨RX9, "sit", "(III)I"⟩
abbrev cX9_price : ByteArray := prog_1_method_24_code
def yX9_price : MethodName := ⟨RX9, "price", "(III)I"⟩
abbrev cX9_keeps : ByteArray := prog_1_method_25_code
def yX9_keeps : MethodName := ⟨RX9, "keeps", "(I)I"⟩
abbrev cX9_lay : ByteArray := prog_1_method_26_code
def yX9_lay : MethodName := ⟨RX9, "lay", "(IIII)I"⟩
abbrev cX9_close : ByteArray := prog_1_method_27_code
def yX9_close : MethodName := ⟨RX9, "close", "(I)I"⟩
abbrev cX9_seat : ByteArray := prog_1_method_28_code
def yX9_seat : MethodName := ⟨RX9, "seat", "(II)I"⟩
abbrev cX9_visit : ByteArray := prog_1_method_29_code
def yX9_visit : MethodName := ⟨RX9, "visit", "(III)I"⟩
abbrev cX9_card : ByteArray := prog_1_method_30_code
def yX9_card : MethodName := ⟨RX9, "card", "(II)I"⟩
abbrev cX9_owes : ByteArray := prog_1_method_31_code
def yX9_owes : MethodName := ⟨RX9, "owes", "(III)I"⟩
abbrev cX9_within : ByteArray := prog_1_method_32_code
def yX9_within : MethodName := ⟨RX9, "within", "(I)I"⟩
abbrev cX9_count : ByteArray := prog_1_method_33_code
def yX9_count : MethodName := ⟨RX9, "count", "(I)I"⟩
abbrev cX9_isOccasion : ByteArray := prog_1_method_34_code
def yX9_isOccasion : MethodName := ⟨RX9, "isOccasion", "(II)Z"⟩
abbrev cX9_areTwo : ByteArray := prog_1_method_35_code
def yX9_areTwo : MethodName := ⟨RX9, "areTwo", "(II)Z"⟩
def RX10 : String := "ProtocolDeskModel"
def TX10 : u_T := fun k => match k with
  | 0 => ("ProtocolDeskModel", "states", "I", false)
  | 1 => ("ProtocolDeskModel", "stateName", "[I", true)
  | 2 => ("ProtocolDeskModel", "stateTongue", "[I", true)
  | 3 => ("ProtocolDeskModel", "feud", "[Z", true)
  | 4 => ("ProtocolDeskModel", "cost", "[I", true)
  | 5 => ("ProtocolDeskModel", "persons", "I", false)
  | 6 => ("ProtocolDeskModel", "stateOf", "[I", true)
  | 7 => ("ProtocolDeskModel", "kind", "[I", true)
  | 8 => ("ProtocolDeskModel", "rank", "[I", true)
  | 9 => ("ProtocolDeskModel", "since", "[I", true)
  | 10 => ("ProtocolDeskModel", "paper", "[I", true)
  | 11 => ("ProtocolDeskModel", "whose", "[I", true)
  | 12 => ("ProtocolDeskModel", "isThere", "[Z", true)
  | 13 => ("ProtocolDeskModel", "tape", "[B", true)
  | 14 => ("ProtocolDeskModel", "taped", "I", false)
  | 15 => ("ProtocolDeskModel", "rules", "I", false)
  | 16 => ("ProtocolDeskModel", "occ", "[I", true)
  | 17 => ("ProtocolDeskModel", "key", "[I", true)
  | 18 => ("ProtocolDeskModel", "isUp", "[Z", true)
  | 19 => ("ProtocolDeskModel", "isAny", "[Z", true)
  | 20 => ("ProtocolDeskModel", "from", "[I", true)
  | 21 => ("ProtocolDeskModel", "to", "[I", true)
  | 22 => ("ProtocolDeskModel", "tests", "[I", true)
  | 23 => ("ProtocolDeskModel", "isNot", "[Z", true)
  | 24 => ("ProtocolDeskModel", "isB", "[Z", true)
  | 25 => ("ProtocolDeskModel", "testField", "[I", true)
  | 26 => ("ProtocolDeskModel", "testSign", "[I", true)
  | 27 => ("ProtocolDeskModel", "testNumber", "[I", true)
  | 28 => ("ProtocolDeskModel", "at", "I", false)
  | 29 => ("ProtocolDeskModel", "fault", "I", false)
  | 30 => ("ProtocolDeskModel", "letters", "[C", true)
  | 31 => ("ProtocolDeskModel", "begins", "[I", true)
  | 32 => ("ProtocolDeskModel", "long0", "[I", true)
  | 33 => ("ProtocolDeskModel", "hands", "I", false)
  | 34 => ("ProtocolDeskModel", "handX", "[I", true)
  | 35 => ("ProtocolDeskModel", "handY", "[I", true)
  | 36 => ("ProtocolDeskModel", "order", "[I", true)
  | 37 => ("ProtocolDeskModel", "ordered", "I", false)
  | 38 => ("ProtocolDeskModel", "isLeft", "[Z", true)
  | 39 => ("ProtocolDeskModel", "ring", "[I", true)
  | 40 => ("ProtocolDeskModel", "ringed", "I", false)
  | 41 => ("ProtocolDeskModel", "walk", "[I", true)
  | 42 => ("ProtocolDeskModel", "tables", "I", false)
  | 43 => ("ProtocolDeskModel", "isRound", "[Z", true)
  | 44 => ("ProtocolDeskModel", "size", "[I", true)
  | 45 => ("ProtocolDeskModel", "seats", "[I", true)
  | 46 => ("ProtocolDeskModel", "way", "[I", true)
  | 47 => ("ProtocolDeskModel", "best", "[I", true)
  | 48 => ("ProtocolDeskModel", "owed", "I", false)
  | 49 => ("ProtocolDeskModel", "ower", "[I", true)
  | 50 => ("ProtocolDeskModel", "caller", "[I", true)
  | 51 => ("ProtocolDeskModel", "visited", "[I", true)
  | _ => ("ProtocolDeskModel", "within", "I", false)
def tyX10 : Nat → FieldType := fun k => match k with
  | 0 => .int
  | 1 => .array .int
  | 2 => .array .int
  | 3 => .array .boolean
  | 4 => .array .int
  | 5 => .int
  | 6 => .array .int
  | 7 => .array .int
  | 8 => .array .int
  | 9 => .array .int
  | 10 => .array .int
  | 11 => .array .int
  | 12 => .array .boolean
  | 13 => .array .byte
  | 14 => .int
  | 15 => .int
  | 16 => .array .int
  | 17 => .array .int
  | 18 => .array .boolean
  | 19 => .array .boolean
  | 20 => .array .int
  | 21 => .array .int
  | 22 => .array .int
  | 23 => .array .boolean
  | 24 => .array .boolean
  | 25 => .array .int
  | 26 => .array .int
  | 27 => .array .int
  | 28 => .int
  | 29 => .int
  | 30 => .array .char
  | 31 => .array .int
  | 32 => .array .int
  | 33 => .int
  | 34 => .array .int
  | 35 => .array .int
  | 36 => .array .int
  | 37 => .int
  | 38 => .array .boolean
  | 39 => .array .int
  | 40 => .int
  | 41 => .array .int
  | 42 => .int
  | 43 => .array .boolean
  | 44 => .array .int
  | 45 => .array .int
  | 46 => .array .int
  | 47 => .array .int
  | 48 => .int
  | 49 => .array .int
  | 50 => .array .int
  | 51 => .array .int
  | _ => .int
abbrev wsX100 : List Cond := u_ws RX10 TX10 53
theorem nmX10 : ∀ a, a < 53 → ∀ b, b < 53 → a ≠ b → (TX10 a).2.1 ≠ (TX10 b).2.1 := by decide +kernel
theorem tyX10_ok : ∀ k, k < 53 → parseFieldDescriptor (TX10 k).2.2.1 = some (tyX10 k) := by decide +kernel
abbrev cX10_init : ByteArray := prog_12_method_1_code
def yX10_init : MethodName := ⟨RX10, "<init>", "()V"⟩
abbrev cX10_isIn : ByteArray := prog_12_method_2_code
def yX10_isIn : MethodName := ⟨RX10, "isIn", "(JJJ)Z"⟩
abbrev cX10_isPerson : ByteArray := prog_12_method_3_code
def yX10_isPerson : MethodName := ⟨RX10, "isPerson", "(I)Z"⟩
abbrev cX10_isState : ByteArray := prog_12_method_4_code
def yX10_isState : MethodName := ⟨RX10, "isState", "(I)Z"⟩
abbrev cX10_state : ByteArray := prog_12_method_5_code
def yX10_state : MethodName := ⟨RX10, "state", "(II)I"⟩
abbrev cX10_person : ByteArray := prog_12_method_6_code
def yX10_person : MethodName := ⟨RX10, "person", "(IIIII)I"⟩
abbrev cX10_paper : ByteArray := prog_12_method_7_code
def yX10_paper : MethodName := ⟨RX10, "paper", "(II)I"⟩
abbrev cX10_there : ByteArray := prog_12_method_8_code
def yX10_there : MethodName := ⟨RX10, "there", "(II)I"⟩
abbrev cX10_split : ByteArray := prog_12_method_9_code
def yX10_split : MethodName := ⟨RX10, "split", "(IIII)I"⟩
abbrev cX10_plainRank : ByteArray := prog_12_method_10_code
def yX10_plainRank : MethodName := ⟨RX10, "plainRank", "(I)I"⟩
abbrev cX10_shown : ByteArray := prog_12_method_11_code
def yX10_shown : MethodName := ⟨RX10, "shown", "(I)I"⟩
abbrev cX10_field : ByteArray := prog_12_method_12_code
def yX10_field : MethodName := ⟨RX10, "field", "(II)I"⟩
abbrev cX10_about : ByteArray := prog_12_method_13_code
def yX10_about : MethodName := ⟨RX10, "about", "(II)I"⟩
abbrev cX10_feed : ByteArray := prog_12_method_14_code
def yX10_feed : MethodName := ⟨RX10, "feed", "(JI)I"⟩
abbrev cX10_wipe : ByteArray := prog_12_method_15_code
def yX10_wipe : MethodName := ⟨RX10, "wipe", "()I"⟩
abbrev cX10_letter : ByteArray := prog_12_method_16_code
def yX10_letter : MethodName := ⟨RX10, "letter", "()I"⟩
abbrev cX10_expect : ByteArray := prog_12_method_17_code
def yX10_expect : MethodName := ⟨RX10, "expect", "(II)V"⟩
abbrev cX10_word : ByteArray := prog_12_method_18_code
def yX10_word : MethodName := ⟨RX10, "word", "(I)I"⟩
abbrev cX10_oneOf : ByteArray := prog_12_method_19_code
def yX10_oneOf : MethodName := ⟨RX10, "oneOf", "(II)I"⟩
abbrev cX10_isDigit : ByteArray := prog_12_method_20_code
def yX10_isDigit : MethodName := ⟨RX10, "isDigit", "(I)Z"⟩
abbrev cX10_readTest : ByteArray := prog_12_method_21_code
def yX10_readTest : MethodName := ⟨RX10, "readTest", "(I)V"⟩
abbrev cX10_readTests : ByteArray := prog_12_method_22_code
def yX10_readTests : MethodName := ⟨RX10, "readTests", "(I)V"⟩
abbrev cX10_read : ByteArray := prog_12_method_23_code
def yX10_read : MethodName := ⟨RX10, "read", "(I)V"⟩
abbrev cX10_rule : ByteArray := prog_12_method_24_code
def yX10_rule : MethodName := ⟨RX10, "rule", "(II)I"⟩
abbrev cX10_ends : ByteArray := prog_12_method_25_code
def yX10_ends : MethodName := ⟨RX10, "ends", "(II)I"⟩
abbrev cX10_holds : ByteArray := prog_12_method_26_code
def yX10_holds : MethodName := ⟨RX10, "holds", "(III)Z"⟩
abbrev cX10_areTested : ByteArray := prog_12_method_27_code
def yX10_areTested : MethodName := ⟨RX10, "areTested", "(III)Z"⟩
abbrev cX10_decided : ByteArray := prog_12_method_28_code
def yX10_decided : MethodName := ⟨RX10, "decided", "(IIIII)I"⟩
abbrev cX10_isAsked : ByteArray := prog_12_method_29_code
def yX10_isAsked : MethodName := ⟨RX10, "isAsked", "(IIII)Z"⟩
abbrev cX10_decides : ByteArray := prog_12_method_30_code
def yX10_decides : MethodName := ⟨RX10, "decides", "(IIIII)I"⟩
abbrev cX10_hand : ByteArray := prog_12_method_31_code
def yX10_hand : MethodName := ⟨RX10, "hand", "(II)I"⟩
abbrev cX10_handOf : ByteArray := prog_12_method_32_code
def yX10_handOf : MethodName := ⟨RX10, "handOf", "(II)I"⟩
abbrev cX10_goes : ByteArray := prog_12_method_33_code
def yX10_goes : MethodName := ⟨RX10, "goes", "(IIII)I"⟩
abbrev cX10_first : ByteArray := prog_12_method_34_code
def yX10_first : MethodName := ⟨RX10, "first", "(IIII)I"⟩
abbrev cX10_ahead : ByteArray := prog_12_method_35_code
def yX10_ahead : MethodName := ⟨RX10, "ahead", "(IIII)I"⟩
abbrev cX10_why : ByteArray := prog_12_method_36_code
def yX10_why : MethodName := ⟨RX10, "why", "(IIII)I"⟩
abbrev cX10_quarrel : ByteArray := prog_12_method_37_code
def yX10_quarrel : MethodName := ⟨RX10, "quarrel", "(IIII)I"⟩
abbrev cX10_leastAhead : ByteArray := prog_12_method_38_code
def yX10_leastAhead : MethodName := ⟨RX10, "leastAhead", "(III)I"⟩
abbrev cX10_findRing : ByteArray := prog_12_method_39_code
def yX10_findRing : MethodName := ⟨RX10, "findRing", "(III)V"⟩
abbrev cX10_findOrder : ByteArray := prog_12_method_40_code
def yX10_findOrder : MethodName := ⟨RX10, "findOrder", "(II)V"⟩
abbrev cX10_isOccasion : ByteArray := prog_12_method_41_code
def yX10_isOccasion : MethodName := ⟨RX10, "isOccasion", "(II)Z"⟩
abbrev cX10_order : ByteArray := prog_12_method_42_code
def yX10_order : MethodName := ⟨RX10, "order", "(III)I"⟩
abbrev cX10_ring : ByteArray := prog_12_method_43_code
def yX10_ring : MethodName := ⟨RX10, "ring", "(III)I"⟩
abbrev cX10_dean : ByteArray := prog_12_method_44_code
def yX10_dean : MethodName := ⟨RX10, "dean", "()I"⟩
abbrev cX10_isTable : ByteArray := prog_12_method_45_code
def yX10_isTable : MethodName := ⟨RX10, "isTable", "(I)Z"⟩
abbrev cX10_table : ByteArray := prog_12_method_46_code
def yX10_table : MethodName := ⟨RX10, "table", "(II)I"⟩
abbrev cX10_feud : ByteArray := prog_12_method_47_code
def yX10_feud : MethodName := ⟨RX10, "feud", "(III)I"⟩
abbrev cX10_talk : ByteArray := prog_12_method_48_code
def yX10_talk : MethodName := ⟨RX10, "talk", "(III)I"⟩
abbrev cX10_sit : ByteArray := prog_12_method_49_code
def yX10_sit : MethodName := ⟨RX10, "sit", "(III)I"⟩
abbrev cX10_take : ByteArray := prog_12_method_50_code
def yX10_take : MethodName := ⟨RX10, "take", "(I)V"⟩
abbrev cX10_areFeuding : ByteArray := prog_12_method_51_code
def yX10_areFeuding : MethodName := ⟨RX10, "areFeuding", "(II)Z"⟩
abbrev cX10_behind : ByteArray := prog_12_method_52_code
def yX10_behind : MethodName := ⟨RX10, "behind", "(II)I"⟩
abbrev cX10_areBeside : ByteArray := prog_12_method_53_code
def yX10_areBeside : MethodName := ⟨RX10, "areBeside", "(II)Z"⟩
abbrev cX10_isKept : ByteArray := prog_12_method_54_code
def yX10_isKept : MethodName := ⟨RX10, "isKept", "(I)Z"⟩
abbrev cX10_priceOf : ByteArray := prog_12_method_55_code
def yX10_priceOf : MethodName := ⟨RX10, "priceOf", "(I)I"⟩
abbrev cX10_price : ByteArray := prog_12_method_56_code
def yX10_price : MethodName := ⟨RX10, "price", "(III)I"⟩
abbrev cX10_keeps : ByteArray := prog_12_method_57_code
def yX10_keeps : MethodName := ⟨RX10, "keeps", "(I)I"⟩
abbrev cX10_isNext : ByteArray := prog_12_method_58_code
def yX10_isNext : MethodName := ⟨RX10, "isNext", "(I)Z"⟩
abbrev cX10_begin : ByteArray := prog_12_method_59_code
def yX10_begin : MethodName := ⟨RX10, "begin", "(I)I"⟩
abbrev cX10_countBits : ByteArray := prog_12_method_60_code
def yX10_countBits : MethodName := ⟨RX10, "countBits", "(I)I"⟩
abbrev cX10_lay : ByteArray := prog_12_method_61_code
def yX10_lay : MethodName := ⟨RX10, "lay", "(IIII)I"⟩
abbrev cX10_close : ByteArray := prog_12_method_62_code
def yX10_close : MethodName := ⟨RX10, "close", "(I)I"⟩
abbrev cX10_seat : ByteArray := prog_12_method_63_code
def yX10_seat : MethodName := ⟨RX10, "seat", "(II)I"⟩
abbrev cX10_forget : ByteArray := prog_12_method_64_code
def yX10_forget : MethodName := ⟨RX10, "forget", "(I)V"⟩
abbrev cX10_oldest : ByteArray := prog_12_method_65_code
def yX10_oldest : MethodName := ⟨RX10, "oldest", "(II)I"⟩
abbrev cX10_visit : ByteArray := prog_12_method_66_code
def yX10_visit : MethodName := ⟨RX10, "visit", "(III)I"⟩
abbrev cX10_card : ByteArray := prog_12_method_67_code
def yX10_card : MethodName := ⟨RX10, "card", "(II)I"⟩
abbrev cX10_owes : ByteArray := prog_12_method_68_code
def yX10_owes : MethodName := ⟨RX10, "owes", "(III)I"⟩
abbrev cX10_within : ByteArray := prog_12_method_69_code
def yX10_within : MethodName := ⟨RX10, "within", "(I)I"⟩
abbrev cX10_count : ByteArray := prog_12_method_70_code
def yX10_count : MethodName := ⟨RX10, "count", "(I)I"⟩
def RJ6 : String := "java/lang/Integer"
def TJ6 : u_T := fun k => match k with
  | _ => ("", "", "", false)
def tyJ6 : Nat → FieldType := fun k => match k with
  | _ => .int
abbrev wsJ60 : List Cond := u_ws RJ6 TJ6 0
theorem nmJ6 : ∀ a, a < 0 → ∀ b, b < 0 → a ≠ b → (TJ6 a).2.1 ≠ (TJ6 b).2.1 := by decide +kernel
theorem tyJ6_ok : ∀ k, k < 0 → parseFieldDescriptor (TJ6 k).2.2.1 = some (tyJ6 k) := by decide +kernel
abbrev cJ6_bitCount_0f7a4 : ByteArray := prog_13_method_49_code
def yJ6_bitCount_0f7a4 : MethodName := ⟨RJ6, "bitCount", "(I)I"⟩
def RJ9 : String := "java/lang/Math"
def TJ9 : u_T := fun k => match k with
  | _ => ("", "", "", false)
def tyJ9 : Nat → FieldType := fun k => match k with
  | _ => .int
abbrev wsJ90 : List Cond := u_ws RJ9 TJ9 0
theorem nmJ9 : ∀ a, a < 0 → ∀ b, b < 0 → a ≠ b → (TJ9 a).2.1 ≠ (TJ9 b).2.1 := by decide +kernel
theorem tyJ9_ok : ∀ k, k < 0 → parseFieldDescriptor (TJ9 k).2.2.1 = some (tyJ9 k) := by decide +kernel
abbrev cJ9_abs_0f7a4 : ByteArray := prog_14_method_59_code
def yJ9_abs_0f7a4 : MethodName := ⟨RJ9, "abs", "(I)I"⟩
abbrev cJ9_max_7cf53 : ByteArray := prog_14_method_65_code
def yJ9_max_7cf53 : MethodName := ⟨RJ9, "max", "(II)I"⟩
abbrev cJ9_min_7cf53 : ByteArray := prog_14_method_69_code
def yJ9_min_7cf53 : MethodName := ⟨RJ9, "min", "(II)I"⟩
def RJ0 : String := "java/lang/String"
def TJ0 : u_T := fun k => match k with
  | _ => ("", "", "", false)
def tyJ0 : Nat → FieldType := fun k => match k with
  | _ => .int
abbrev wsJ00 : List Cond := u_ws RJ0 TJ0 0
theorem nmJ0 : ∀ a, a < 0 → ∀ b, b < 0 → a ≠ b → (TJ0 a).2.1 ≠ (TJ0 b).2.1 := by decide +kernel
theorem tyJ0_ok : ∀ k, k < 0 → parseFieldDescriptor (TJ0 k).2.2.1 = some (tyJ0 k) := by decide +kernel
abbrev cJ0_length_8abf5 : ByteArray := prog_15_method_54_code
def yJ0_length_8abf5 : MethodName := ⟨RJ0, "length", "()I"⟩
abbrev cJ0_charAt_5068e : ByteArray := prog_15_method_56_code
def yJ0_charAt_5068e : MethodName := ⟨RJ0, "charAt", "(I)C"⟩
abbrev cJ0_coder_7d493 : ByteArray := prog_15_method_152_code
def yJ0_coder_7d493 : MethodName := ⟨RJ0, "coder", "()B"⟩
abbrev cJ0_isLatin1_aae02 : ByteArray := prog_15_method_154_code
def yJ0_isLatin1_aae02 : MethodName := ⟨RJ0, "isLatin1", "()Z"⟩
abbrev cJ0_checkIndex_df160 : ByteArray := prog_15_method_155_code
def yJ0_checkIndex_df160 : MethodName := ⟨RJ0, "checkIndex", "(II)V"⟩
def RJ1 : String := "java/lang/StringLatin1"
def TJ1 : u_T := fun k => match k with
  | _ => ("", "", "", false)
def tyJ1 : Nat → FieldType := fun k => match k with
  | _ => .int
abbrev wsJ10 : List Cond := u_ws RJ1 TJ1 0
theorem nmJ1 : ∀ a, a < 0 → ∀ b, b < 0 → a ≠ b → (TJ1 a).2.1 ≠ (TJ1 b).2.1 := by decide +kernel
theorem tyJ1_ok : ∀ k, k < 0 → parseFieldDescriptor (TJ1 k).2.2.1 = some (tyJ1 k) := by decide +kernel
abbrev cJ1_charAt_3b067 : ByteArray := prog_16_method_2_code
def yJ1_charAt_3b067 : MethodName := ⟨RJ1, "charAt", "([BI)C"⟩
def RJ2 : String := "java/lang/StringUTF16"
def TJ2 : u_T := fun k => match k with
  | _ => ("", "", "", false)
def tyJ2 : Nat → FieldType := fun k => match k with
  | _ => .int
abbrev wsJ20 : List Cond := u_ws RJ2 TJ2 0
theorem nmJ2 : ∀ a, a < 0 → ∀ b, b < 0 → a ≠ b → (TJ2 a).2.1 ≠ (TJ2 b).2.1 := by decide +kernel
theorem tyJ2_ok : ∀ k, k < 0 → parseFieldDescriptor (TJ2 k).2.2.1 = some (tyJ2 k) := by decide +kernel
abbrev cJ2_getChar_3b067 : ByteArray := prog_17_method_5_code
def yJ2_getChar_3b067 : MethodName := ⟨RJ2, "getChar", "([BI)C"⟩
abbrev cJ2_length_9d52b : ByteArray := prog_17_method_6_code
def yJ2_length_9d52b : MethodName := ⟨RJ2, "length", "([B)I"⟩
abbrev cJ2_charAt_3b067 : ByteArray := prog_17_method_83_code
def yJ2_charAt_3b067 : MethodName := ⟨RJ2, "charAt", "([BI)C"⟩
abbrev cJ2_checkIndex_2214a : ByteArray := prog_17_method_91_code
def yJ2_checkIndex_2214a : MethodName := ⟨RJ2, "checkIndex", "(I[B)V"⟩
def RJ10 : String := "java/lang/System"
def TJ10 : u_T := fun k => match k with
  | _ => ("", "", "", false)
def tyJ10 : Nat → FieldType := fun k => match k with
  | _ => .int
abbrev wsJ100 : List Cond := u_ws RJ10 TJ10 0
theorem nmJ10 : ∀ a, a < 0 → ∀ b, b < 0 → a ≠ b → (TJ10 a).2.1 ≠ (TJ10 b).2.1 := by decide +kernel
theorem tyJ10_ok : ∀ k, k < 0 → parseFieldDescriptor (TJ10 k).2.2.1 = some (tyJ10 k) := by decide +kernel
def RJ7 : String := "java/util/Arrays"
def TJ7 : u_T := fun k => match k with
  | _ => ("", "", "", false)
def tyJ7 : Nat → FieldType := fun k => match k with
  | _ => .int
abbrev wsJ70 : List Cond := u_ws RJ7 TJ7 0
theorem nmJ7 : ∀ a, a < 0 → ∀ b, b < 0 → a ≠ b → (TJ7 a).2.1 ≠ (TJ7 b).2.1 := by decide +kernel
theorem tyJ7_ok : ∀ k, k < 0 → parseFieldDescriptor (TJ7 k).2.2.1 = some (tyJ7 k) := by decide +kernel
abbrev cJ7_fill_53178 : ByteArray := prog_19_method_103_code
def yJ7_fill_53178 : MethodName := ⟨RJ7, "fill", "([II)V"⟩
def RJ3 : String := "jdk/internal/util/Preconditions"
def TJ3 : u_T := fun k => match k with
  | _ => ("", "", "", false)
def tyJ3 : Nat → FieldType := fun k => match k with
  | _ => .int
abbrev wsJ30 : List Cond := u_ws RJ3 TJ3 0
theorem nmJ3 : ∀ a, a < 0 → ∀ b, b < 0 → a ≠ b → (TJ3 a).2.1 ≠ (TJ3 b).2.1 := by decide +kernel
theorem tyJ3_ok : ∀ k, k < 0 → parseFieldDescriptor (TJ3 k).2.2.1 = some (tyJ3 k) := by decide +kernel
abbrev cJ3_checkIndex_8e157 : ByteArray := prog_20_method_11_code
def yJ3_checkIndex_8e157 : MethodName := ⟨RJ3, "checkIndex", "(IILjava/util/function/BiFunction;)I"⟩
def RL : String := "ProtocolDeskLaw"
abbrev cL_law : ByteArray := code
def yL_law : MethodName := ⟨RL, "law", "([I)Z"⟩
end
section
/-! the shape of all cells behind the two constructors: family, how many, what: an object (class, fields: none a number, some g a reference), an array of numbers (kind, length), an array of references -/
abbrev zN : Type := Nat × Nat
abbrev zD : Type := Nat × ((Nat × List (Option (Nat → zN))) ⊕ ((Nat × Nat) ⊕ (Nat × Nat × (Nat → Nat → zN))))
def zTab : List zD := [
  (1, .inl (9, [some (fun _ => (1, 0)), some (fun _ => (2, 0)), some (fun _ => (3, 0)), some (fun _ => (4, 0)), some (fun _ => (5, 0)), some (fun _ => (6, 0)), some (fun _ => (7, 0))])),
  (1, .inl (3, [none, none, some (fun _ => (10, 0)), some (fun _ => (11, 0)), some (fun _ => (12, 0)), some (fun _ => (13, 0)), some (fun _ => (14, 0)), some (fun _ => (15, 0)), some (fun _ => (16, 0))])),
  (1, .inl (8, [none, some (fun _ => (18, 0)), none, none])),
  (1, .inl (5, [none, none, some (fun _ => (19, 0)), some (fun _ => (20, 0)), some (fun _ => (21, 0)), some (fun _ => (1, 0))])),
  (1, .inl (2, [none, none, some (fun _ => (27, 0)), some (fun _ => (28, 0)), some (fun _ => (29, 0)), some (fun _ => (30, 0)), some (fun _ => (31, 0)), some (fun _ => (32, 0)), some (fun _ => (1, 0)), some (fun _ => (3, 0))])),
  (1, .inl (1, [none, some (fun _ => (34, 0)), some (fun _ => (35, 0)), some (fun _ => (37, 0)), some (fun _ => (39, 0)), some (fun _ => (1, 0))])),
  (1, .inl (6, [some (fun _ => (41, 0)), some (fun _ => (42, 0)), some (fun _ => (43, 0)), some (fun _ => (44, 0)), some (fun _ => (5, 0)), none, none])),
  (1, .inl (0, [none, none, some (fun _ => (45, 0)), some (fun _ => (46, 0)), some (fun _ => (47, 0))])),
  (16, .inl (4, [none, none, none, none, none, none, none, some (fun i => (22, i)), some (fun i => (23, i)), some (fun i => (24, i)), some (fun i => (25, i)), some (fun i => (26, i))])),
  (4, .inl (7, [none, some (fun i => (40, i)), none])),
  (1, .inr (.inl (0, 20))),
  (1, .inr (.inl (0, 20))),
  (1, .inr (.inr (4, 20, fun _ j => (17, j)))),
  (1, .inr (.inl (0, 10))),
  (1, .inr (.inl (0, 10))),
  (1, .inr (.inl (0, 20))),
  (1, .inr (.inl (0, 20))),
  (20, .inr (.inl (0, 7))),
  (1, .inr (.inl (0, 200))),
  (1, .inr (.inr (5, 16, fun _ j => (8, j)))),
  (1, .inr (.inl (0, 20))),
  (1, .inr (.inl (0, 20))),
  (16, .inr (.inl (1, 4))),
  (16, .inr (.inl (1, 4))),
  (16, .inr (.inl (0, 4))),
  (16, .inr (.inl (0, 4))),
  (16, .inr (.inl (0, 4))),
  (1, .inr (.inl (0, 20))),
  (1, .inr (.inl (0, 20))),
  (1, .inr (.inl (1, 20))),
  (1, .inr (.inl (0, 20))),
  (1, .inr (.inl (0, 20))),
  (1, .inr (.inr (4, 20, fun _ j => (33, j)))),
  (20, .inr (.inl (0, 20))),
  (1, .inr (.inr (6, 4, fun _ j => (9, j)))),
  (1, .inr (.inr (4, 10, fun _ j => (36, j)))),
  (10, .inr (.inl (0, 10))),
  (1, .inr (.inr (4, 8, fun _ j => (38, j)))),
  (8, .inr (.inl (0, 8))),
  (1, .inr (.inl (0, 20))),
  (4, .inr (.inl (0, 12))),
  (1, .inr (.inl (0, 7))),
  (1, .inr (.inl (1, 7))),
  (1, .inr (.inl (0, 12))),
  (1, .inr (.inl (0, 12))),
  (1, .inr (.inl (0, 40))),
  (1, .inr (.inl (0, 40))),
  (1, .inr (.inl (0, 40))),
  (1, .inl (10, [none, some (fun _ => (51, 0)), some (fun _ => (52, 0)), some (fun _ => (53, 0)), some (fun _ => (54, 0)), none, some (fun _ => (56, 0)), some (fun _ => (57, 0)), some (fun _ => (58, 0)), some (fun _ => (59, 0)), some (fun _ => (60, 0)), some (fun _ => (61, 0)), some (fun _ => (62, 0)), some (fun _ => (63, 0)), none, none, some (fun _ => (66, 0)), some (fun _ => (67, 0)), some (fun _ => (68, 0)), some (fun _ => (69, 0)), some (fun _ => (70, 0)), some (fun _ => (71, 0)), some (fun _ => (72, 0)), some (fun _ => (73, 0)), some (fun _ => (74, 0)), some (fun _ => (75, 0)), some (fun _ => (76, 0)), some (fun _ => (77, 0)), none, none, some (fun _ => (80, 0)), some (fun _ => (81, 0)), some (fun _ => (82, 0)), none, some (fun _ => (84, 0)), some (fun _ => (85, 0)), some (fun _ => (86, 0)), none, some (fun _ => (88, 0)), some (fun _ => (89, 0)), none, some (fun _ => (91, 0)), none, some (fun _ => (93, 0)), some (fun _ => (94, 0)), some (fun _ => (95, 0)), some (fun _ => (96, 0)), some (fun _ => (97, 0)), none, some (fun _ => (99, 0)), some (fun _ => (100, 0)), some (fun _ => (101, 0)), none])),
  (0, .inr (.inl (0, 0))),
  (0, .inr (.inl (0, 0))),
  (1, .inr (.inl (0, 10))),
  (1, .inr (.inl (0, 10))),
  (1, .inr (.inl (1, 100))),
  (1, .inr (.inl (0, 64))),
  (0, .inr (.inl (0, 0))),
  (1, .inr (.inl (0, 20))),
  (1, .inr (.inl (0, 20))),
  (1, .inr (.inl (0, 20))),
  (1, .inr (.inl (0, 20))),
  (1, .inr (.inl (0, 20))),
  (1, .inr (.inl (0, 20))),
  (1, .inr (.inl (1, 20))),
  (1, .inr (.inl (2, 200))),
  (0, .inr (.inl (0, 0))),
  (0, .inr (.inl (0, 0))),
  (1, .inr (.inl (0, 16))),
  (1, .inr (.inl (0, 16))),
  (1, .inr (.inl (1, 16))),
  (1, .inr (.inl (1, 16))),
  (1, .inr (.inl (0, 16))),
  (1, .inr (.inl (0, 16))),
  (1, .inr (.inl (0, 16))),
  (1, .inr (.inl (1, 64))),
  (1, .inr (.inl (1, 64))),
  (1, .inr (.inl (0, 64))),
  (1, .inr (.inl (0, 64))),
  (1, .inr (.inl (0, 64))),
  (0, .inr (.inl (0, 0))),
  (0, .inr (.inl (0, 0))),
  (1, .inr (.inl (3, 33))),
  (1, .inr (.inl (0, 7))),
  (1, .inr (.inl (0, 7))),
  (0, .inr (.inl (0, 0))),
  (1, .inr (.inl (0, 20))),
  (1, .inr (.inl (0, 20))),
  (1, .inr (.inl (0, 20))),
  (0, .inr (.inl (0, 0))),
  (1, .inr (.inl (1, 20))),
  (1, .inr (.inl (0, 20))),
  (0, .inr (.inl (0, 0))),
  (1, .inr (.inl (0, 21))),
  (0, .inr (.inl (0, 0))),
  (1, .inr (.inl (1, 4))),
  (1, .inr (.inl (0, 4))),
  (1, .inr (.inl (0, 48))),
  (1, .inr (.inl (0, 12))),
  (1, .inr (.inl (0, 12))),
  (0, .inr (.inl (0, 0))),
  (1, .inr (.inl (0, 40))),
  (1, .inr (.inl (0, 40))),
  (1, .inr (.inl (0, 40))),
  (0, .inr (.inl (0, 0)))]
abbrev zcl : List vw_C := [(RX0, TX0, 5), (RX1, TX1, 6), (RX2, TX2, 10), (RX3, TX3, 9), (RX4, TX4, 12), (RX5, TX5, 6), (RX6, TX6, 7), (RX7, TX7, 3), (RX8, TX8, 4), (RX9, TX9, 7), (RX10, TX10, 53)]
def zty : Nat → Nat → FieldType := fun c => match c with
  | 0 => tyX0
  | 1 => tyX1
  | 2 => tyX2
  | 3 => tyX3
  | 4 => tyX4
  | 5 => tyX5
  | 6 => tyX6
  | 7 => tyX7
  | 8 => tyX8
  | 9 => tyX9
  | _ => tyX10
def zT : List Cond := lw_tbl.filter goodWord
theorem zlay0 : ∀ w ∈ u_ws RX0 TX0 5, w ∈ zT := by
  intro w hw
  refine List.mem_filter.mpr ⟨?_, ?_⟩
  · exact (by decide +kernel : ∀ w ∈ u_ws RX0 TX0 5, w ∈ lw_tbl) w hw
  · exact (by decide +kernel : ∀ w ∈ u_ws RX0 TX0 5, goodWord w = true) w hw
theorem zlay1 : ∀ w ∈ u_ws RX1 TX1 6, w ∈ zT := by
  intro w hw
  refine List.mem_filter.mpr ⟨?_, ?_⟩
  · exact (by decide +kernel : ∀ w ∈ u_ws RX1 TX1 6, w ∈ lw_tbl) w hw
  · exact (by decide +kernel : ∀ w ∈ u_ws RX1 TX1 6, goodWord w = true) w hw
theorem zlay2 : ∀ w ∈ u_ws RX2 TX2 10, w ∈ zT := by
  intro w hw
  refine List.mem_filter.mpr ⟨?_, ?_⟩
  · exact (by decide +kernel : ∀ w ∈ u_ws RX2 TX2 10, w ∈ lw_tbl) w hw
  · exact (by decide +kernel : ∀ w ∈ u_ws RX2 TX2 10, goodWord w = true) w hw
theorem zlay3 : ∀ w ∈ u_ws RX3 TX3 9, w ∈ zT := by
  intro w hw
  refine List.mem_filter.mpr ⟨?_, ?_⟩
  · exact (by decide +kernel : ∀ w ∈ u_ws RX3 TX3 9, w ∈ lw_tbl) w hw
  · exact (by decide +kernel : ∀ w ∈ u_ws RX3 TX3 9, goodWord w = true) w hw
theorem zlay4 : ∀ w ∈ u_ws RX4 TX4 12, w ∈ zT := by
  intro w hw
  refine List.mem_filter.mpr ⟨?_, ?_⟩
  · exact (by decide +kernel : ∀ w ∈ u_ws RX4 TX4 12, w ∈ lw_tbl) w hw
  · exact (by decide +kernel : ∀ w ∈ u_ws RX4 TX4 12, goodWord w = true) w hw
theorem zlay5 : ∀ w ∈ u_ws RX5 TX5 6, w ∈ zT := by
  intro w hw
  refine List.mem_filter.mpr ⟨?_, ?_⟩
  · exact (by decide +kernel : ∀ w ∈ u_ws RX5 TX5 6, w ∈ lw_tbl) w hw
  · exact (by decide +kernel : ∀ w ∈ u_ws RX5 TX5 6, goodWord w = true) w hw
theorem zlay6 : ∀ w ∈ u_ws RX6 TX6 7, w ∈ zT := by
  intro w hw
  refine List.mem_filter.mpr ⟨?_, ?_⟩
  · exact (by decide +kernel : ∀ w ∈ u_ws RX6 TX6 7, w ∈ lw_tbl) w hw
  · exact (by decide +kernel : ∀ w ∈ u_ws RX6 TX6 7, goodWord w = true) w hw
theorem zlay7 : ∀ w ∈ u_ws RX7 TX7 3, w ∈ zT := by
  intro w hw
  refine List.mem_filter.mpr ⟨?_, ?_⟩
  · exact (by decide +kernel : ∀ w ∈ u_ws RX7 TX7 3, w ∈ lw_tbl) w hw
  · exact (by decide +kernel : ∀ w ∈ u_ws RX7 TX7 3, goodWord w = true) w hw
theorem zlay8 : ∀ w ∈ u_ws RX8 TX8 4, w ∈ zT := by
  intro w hw
  refine List.mem_filter.mpr ⟨?_, ?_⟩
  · exact (by decide +kernel : ∀ w ∈ u_ws RX8 TX8 4, w ∈ lw_tbl) w hw
  · exact (by decide +kernel : ∀ w ∈ u_ws RX8 TX8 4, goodWord w = true) w hw
theorem zlay9 : ∀ w ∈ u_ws RX9 TX9 7, w ∈ zT := by
  intro w hw
  refine List.mem_filter.mpr ⟨?_, ?_⟩
  · exact (by decide +kernel : ∀ w ∈ u_ws RX9 TX9 7, w ∈ lw_tbl) w hw
  · exact (by decide +kernel : ∀ w ∈ u_ws RX9 TX9 7, goodWord w = true) w hw
theorem zlay10 : ∀ w ∈ u_ws RX10 TX10 53, w ∈ zT := by
  intro w hw
  refine List.mem_filter.mpr ⟨?_, ?_⟩
  · exact (by decide +kernel : ∀ w ∈ u_ws RX10 TX10 53, w ∈ lw_tbl) w hw
  · exact (by decide +kernel : ∀ w ∈ u_ws RX10 TX10 53, goodWord w = true) w hw
theorem zlay {ci : Nat} {C : String} {T : u_T} {N : Nat} (h : zcl[ci]? = some (C, T, N)) : (∀ w ∈ u_ws C T N, w ∈ zT) ∧ (∀ k, k < N → parseFieldDescriptor (T k).2.2.1 = some (zty ci k)) ∧ (∀ a, a < N → ∀ b, b < N → a ≠ b → (T a).2.1 ≠ (T b).2.1) := by
  match ci, h with
  | 0, h => cases h; exact ⟨zlay0, tyX0_ok, nmX0⟩
  | 1, h => cases h; exact ⟨zlay1, tyX1_ok, nmX1⟩
  | 2, h => cases h; exact ⟨zlay2, tyX2_ok, nmX2⟩
  | 3, h => cases h; exact ⟨zlay3, tyX3_ok, nmX3⟩
  | 4, h => cases h; exact ⟨zlay4, tyX4_ok, nmX4⟩
  | 5, h => cases h; exact ⟨zlay5, tyX5_ok, nmX5⟩
  | 6, h => cases h; exact ⟨zlay6, tyX6_ok, nmX6⟩
  | 7, h => cases h; exact ⟨zlay7, tyX7_ok, nmX7⟩
  | 8, h => cases h; exact ⟨zlay8, tyX8_ok, nmX8⟩
  | 9, h => cases h; exact ⟨zlay9, tyX9_ok, nmX9⟩
  | 10, h => cases h; exact ⟨zlay10, tyX10_ok, nmX10⟩
  | n + 11, h => exact absurd h (by simp [zcl])
end
section
/-! THE LAYER. All cells stand after the constructors; what changes are numbers: μ family index place. -/
abbrev zV : Type := Int32 ⊕ (Int64 ⊕ zN)
abbrev zMu : Type := Nat → Nat → Nat → Int32
abbrev zI (x : Int32) : zV := .inl x
abbrev zL (x : Int64) : zV := .inr (.inl x)
abbrev zR (f i : Nat) : zV := .inr (.inr (f, i))
def zu (μ : zMu) (f i k : Nat) (v : Int32) : zMu := fun a b c => if a = f ∧ c = k ∧ b = i then v else μ a b c
/-- addresses, classes, array classes, the first new address, the strings' arrays, the script's length and ints -/
abbrev zX : Type := (Nat → Nat → Nat) × va_G × (Nat → ClassId) × Nat × (Nat → Nat) × Nat × (Nat → Int32)
def zA (X : zX) : Nat → Prop := fun q => X.2.2.2.1 ≤ q
def ztr (X : zX) : zV → Value
  | .inl x => .int x
  | .inr (.inl x) => .long x
  | .inr (.inr n) => .ref (X.1 n.1 n.2)
def ztys (X : zX) : List (ClassId × FieldType) := [(X.2.2.1 0, .int), (X.2.2.1 1, .boolean), (X.2.2.1 2, .byte), (X.2.2.1 3, .char), (X.2.2.1 4, .array .int), (X.2.2.1 5, .object RX4), (X.2.2.1 6, .object RX7)]
def zE (X : zX) (μ : zMu) (n : zN) : va_E := match zTab[n.1]? with
  | some (_, .inl (ci, fs)) => .inr (ci, fs.mapIdx (fun k o => match o with
    | none => Value.int (μ n.1 n.2 k)
    | some g => Value.ref (X.1 (g n.2).1 (g n.2).2)))
  | some (_, .inr (.inl (kd, len))) => .inl (X.2.2.1 kd, len, .inl (μ n.1 n.2))
  | some (_, .inr (.inr (kd, len, g))) => .inl (X.2.2.1 kd, len, .inr (.inr (.inr (.inr (fun j => some (X.1 (g n.2 j).1 (g n.2 j).2))))))
  | none => .inr (0, [])
def zAll : List zN := (List.range zTab.length).flatMap fun f => (List.range ((zTab[f]?.map (·.1)).getD 0)).map fun i => (f, i)
def zWs (X : zX) (μ : zMu) : va_W := zAll.map fun n => (X.1 n.1 n.2, zE X μ n)
def zRep (X : zX) (μ : zMu) (U : State) (H : Heap) : Prop := va_K X.2.1 zcl (ztys X) U ∧ va_P X.2.1 zcl (zWs X μ) H ∧ va_D (zA X) (zWs X μ)
/-- the String constants: entry in Tape's file, text -/
def zStr : List (Nat × String) := [(49, "on"), (58, "* 0 1 2 3 4 5 6 7 8 9"), (63, "rank paper name since kind"), (68, "up down"), (73, "if"), (85, "a b not"), (91, "a b"), (96, "."), (101, "rank paper name since kind state tongue"), (106, "= < >"), (79, "and or"), (81, "or"), (83, "and")]
def zLen : List Nat := [2, 21, 26, 7, 2, 7, 3, 1, 39, 5, 6, 2, 3]
def zByt : List (List Int32) := [[111, 110], [42, 32, 48, 32, 49, 32, 50, 32, 51, 32, 52, 32, 53, 32, 54, 32, 55, 32, 56, 32, 57], [114, 97, 110, 107, 32, 112, 97, 112, 101, 114, 32, 110, 97, 109, 101, 32, 115, 105, 110, 99, 101, 32, 107, 105, 110, 100], [117, 112, 32, 100, 111, 119, 110], [105, 102], [97, 32, 98, 32, 110, 111, 116], [97, 32, 98], [46], [114, 97, 110, 107, 32, 112, 97, 112, 101, 114, 32, 110, 97, 109, 101, 32, 115, 105, 110, 99, 101, 32, 107, 105, 110, 100, 32, 115, 116, 97, 116, 101, 32, 116, 111, 110, 103, 117, 101], [61, 32, 60, 32, 62], [97, 110, 100, 32, 111, 114], [111, 114], [97, 110, 100]]
/-- what stays: the strings, the script -/
def zSt (X : zX) (U : State) : Prop := vk_S 13 zLen zByt (X.1 200) X.2.2.2.2.1 (zA X) U U.heap ∧ (∀ (i : Nat) (q : Nat × String), zStr[i]? = some q → vk_R RX8 q.1 q.2 (X.1 200 i) U) ∧ va_Z "java/lang/String" "COMPACT_STRINGS" "Z" (.int 1) (zA X) U U.heap ∧ va_X (X.1 201 0) X.2.2.2.2.2.1 X.2.2.2.2.2.2 U U.heap ∧ X.1 201 0 < U.heap.size ∧ ¬ zA X (X.1 201 0) ∧ X.2.2.2.1 ≤ U.heap.size ∧ va_Zq "jdk/internal/util/Preconditions" "SIOOBE_FORMATTER" "Ljava/util/function/BiFunction;" (zA X) U U.heap
-- ---- worlds by their names
theorem zAll_mem {f i cnt : Nat} {d} (h : zTab[f]? = some (cnt, d)) (hi : i < cnt) : (f, i) ∈ zAll := by
  refine List.mem_flatMap.mpr ⟨f, List.mem_range.mpr (List.getElem?_eq_some_iff.mp h).1, ?_⟩
  refine List.mem_map.mpr ⟨i, ?_, rfl⟩
  rw [h]
  exact List.mem_range.mpr hi
theorem zAll_nodup : zAll.Nodup := by decide +kernel
theorem zWs_at {X : zX} {μ : zMu} {n : zN} {k : Nat} (h : zAll[k]? = some n) : (zWs X μ)[k]? = some (X.1 n.1 n.2, zE X μ n) := by
  unfold zWs
  rw [List.getElem?_map, h]
  rfl
theorem zAll_inj {j k : Nat} {n : zN} (hj : zAll[j]? = some n) (hk : zAll[k]? = some n) : j = k := by
  have h1 := (List.getElem?_eq_some_iff.mp hj)
  have h2 := (List.getElem?_eq_some_iff.mp hk)
  obtain ⟨l1, e1⟩ := h1
  obtain ⟨l2, e2⟩ := h2
  have hp := List.pairwise_iff_getElem.mp zAll_nodup
  rcases Nat.lt_trichotomy j k with h | h | h
  · exact absurd (e1.trans e2.symm) (hp j k l1 l2 h)
  · exact h
  · exact absurd (e2.trans e1.symm) (hp k j l2 l1 h)
theorem zWs_set {X : zX} {μ μ' : zMu} {n : zN} {k : Nat} {e : va_E} (h : zAll[k]? = some n) (he : zE X μ' n = e) (ho : ∀ n' : zN, n' ≠ n → zE X μ' n' = zE X μ n') : (zWs X μ).set k (X.1 n.1 n.2, e) = zWs X μ' := by
  apply List.ext_getElem?
  intro j
  by_cases hj : j = k
  · subst hj
    rw [List.getElem?_set_self (by simpa [zWs] using (List.getElem?_eq_some_iff.mp h).1), zWs_at h, he]
  · rw [List.getElem?_set_ne (Ne.symm hj)]
    cases hn : zAll[j]? with
    | none => simp [zWs, hn]
    | some n' =>
      have hne : n' ≠ n := fun q => hj (zAll_inj (q ▸ hn) h)
      rw [zWs_at hn, zWs_at hn, ho n' hne]
theorem zE_ne {X : zX} {μ μ' : zMu} {n' : zN} (h : ∀ k, μ' n'.1 n'.2 k = μ n'.1 n'.2 k) : zE X μ' n' = zE X μ n' := by
  have h2 : μ' n'.1 n'.2 = μ n'.1 n'.2 := funext h
  unfold zE
  rw [h2]
theorem zu_ne {μ : zMu} {f i k a b c : Nat} {v : Int32} (h : ¬ (a = f ∧ c = k ∧ b = i)) : zu μ f i k v a b c = μ a b c := if_neg h
theorem zu_eq {μ : zMu} {f i k : Nat} {v : Int32} : zu μ f i k v f i k = v := if_pos ⟨rfl, rfl, rfl⟩
theorem zE_zu_ne {X : zX} {μ : zMu} {f i k : Nat} {v : Int32} (n' : zN) (h : n' ≠ (f, i)) : zE X (zu μ f i k v) n' = zE X μ n' := by
  refine zE_ne (fun c => zu_ne (fun q => h ?_))
  exact Prod.ext q.1 q.2.2
theorem zE_obj {X : zX} {μ : zMu} {f i ci cnt : Nat} {fs : List (Option (Nat → zN))} (h : zTab[f]? = some (cnt, .inl (ci, fs))) : zE X μ (f, i) = .inr (ci, fs.mapIdx (fun k o => match o with
    | none => Value.int (μ f i k)
    | some g => Value.ref (X.1 (g i).1 (g i).2))) := by
  simp only [zE, h]
theorem zE_arr {X : zX} {μ : zMu} {f i kd len cnt : Nat} (h : zTab[f]? = some (cnt, .inr (.inl (kd, len)))) : zE X μ (f, i) = .inl (X.2.2.1 kd, len, .inl (μ f i)) := by
  simp only [zE, h]
theorem zE_rfa {X : zX} {μ : zMu} {f i kd len cnt : Nat} {g} (h : zTab[f]? = some (cnt, .inr (.inr (kd, len, g)))) : zE X μ (f, i) = .inl (X.2.2.1 kd, len, .inr (.inr (.inr (.inr (fun j => some (X.1 (g i j).1 (g i j).2)))))) := by
  simp only [zE, h]
theorem zE_put {X : zX} {μ : zMu} {f i ci cnt k : Nat} {fs : List (Option (Nat → zN))} {x : Int32} (h : zTab[f]? = some (cnt, .inl (ci, fs))) (hk : fs[k]? = some none) : zE X (zu μ f i k x) (f, i) = .inr (ci, (fs.mapIdx (fun k o => match o with
    | none => Value.int (μ f i k)
    | some g => Value.ref (X.1 (g i).1 (g i).2))).set k (.int x)) := by
  rw [zE_obj h]
  congr 2
  apply List.ext_getElem?
  intro j
  rw [List.getElem?_mapIdx]
  by_cases hj : j = k
  · subst hj
    rw [List.getElem?_set_self (by simpa using (List.getElem?_eq_some_iff.mp hk).1), hk]
    simp [zu]
  · rw [List.getElem?_set_ne (Ne.symm hj), List.getElem?_mapIdx]
    cases fs[j]? with
    | none => rfl
    | some o => cases o <;> simp [zu, hj]
theorem zE_sto {X : zX} {μ : zMu} {f i kd len cnt k : Nat} {x : Int32} (h : zTab[f]? = some (cnt, .inr (.inl (kd, len)))) : zE X (zu μ f i k x) (f, i) = .inl (X.2.2.1 kd, len, .inl (upd (μ f i) k x)) := by
  rw [zE_arr h]
  have e : zu μ f i k x f i = upd (μ f i) k x := by
    funext j
    simp [zu, upd]
  rw [e]
-- ---- locals
def zlv (X : zX) : Nat → List (Option zV) → List (Nat × Value)
  | _, [] => []
  | i, none :: r => zlv X (i + 1) r
  | i, some v :: r => (i, ztr X v) :: zlv X (i + 1) r
theorem zlv_mem {X : zX} : ∀ (ls : List (Option zV)) (i : Nat) (q : Nat × Value), q ∈ zlv X i ls ↔ ∃ (k : Nat) (v : zV), ls[k]? = some (some v) ∧ q = (i + k, ztr X v)
  | [], i, q => by simp [zlv]
  | none :: r, i, q => by
    rw [zlv, zlv_mem r (i + 1) q]
    constructor
    · rintro ⟨k, v, h, rfl⟩
      exact ⟨k + 1, v, by simpa using h, by rw [Nat.add_assoc, Nat.add_comm 1 k]⟩
    · rintro ⟨k, v, h, rfl⟩
      cases k with
      | zero => simp at h
      | succ k => exact ⟨k, v, by simpa using h, by rw [Nat.add_assoc, Nat.add_comm 1 k]⟩
  | some w :: r, i, q => by
    rw [zlv, List.mem_cons, zlv_mem r (i + 1) q]
    constructor
    · rintro (rfl | ⟨k, v, h, rfl⟩)
      · exact ⟨0, w, rfl, rfl⟩
      · exact ⟨k + 1, v, by simpa using h, by rw [Nat.add_assoc, Nat.add_comm 1 k]⟩
    · rintro ⟨k, v, h, rfl⟩
      cases k with
      | zero =>
        left
        simp at h
        subst h
        rfl
      | succ k => exact Or.inr ⟨k, v, by simpa using h, by rw [Nat.add_assoc, Nat.add_comm 1 k]⟩
def zLv (X : zX) (nL : Nat) (ls : List (Option zV)) (la : Array Slot) : Prop := ls.length ≤ nL ∧ lv_has la nL (zlv X 0 ls)
theorem zLv_at {X : zX} {nL : Nat} {ls : List (Option zV)} {la : Array Slot} (h : zLv X nL ls la) {k : Nat} {v : zV} (hk : ls[k]? = some (some v)) : la[k]? = some (.val (ztr X v)) :=
  h.2.2.2 (k, ztr X v) ((zlv_mem ls 0 _).mpr ⟨k, v, hk, by rw [Nat.zero_add]⟩)
def zok (ls : List (Option zV)) (k : Nat) : Bool := decide (k < ls.length) && (match k with
  | 0 => true
  | j + 1 => match ls[j]? with
    | some (some (.inr (.inl _))) => false
    | _ => true)
theorem zLv_set {X : zX} {nL : Nat} {ls : List (Option zV)} {la la' : Array Slot} {k : Nat} {v : zV} {w : Value} (h : zLv X nL ls la) (ho : zok ls k = true) (hw : w = ztr X v) (h' : lv_has la' nL ((k, w) :: (zlv X 0 ls).filter (fun q => !(q.1 == k) && !(q.1 + 1 == k && q.2.category == 2)))) : zLv X nL (ls.set k (some v)) la' := by
  subst hw
  simp only [zok, Bool.and_eq_true, decide_eq_true_eq] at ho
  refine ⟨by rw [List.length_set]; exact h.1, h'.1, h'.2.1, fun q hq => h'.2.2 q ?_⟩
  obtain ⟨j, u, hj, rfl⟩ := (zlv_mem _ 0 q).mp hq
  rw [Nat.zero_add]
  by_cases hjk : j = k
  · subst hjk
    rw [List.getElem?_set_self ho.1] at hj
    cases hj
    exact List.mem_cons_self
  · rw [List.getElem?_set_ne (Ne.symm hjk)] at hj
    refine List.mem_cons_of_mem _ (List.mem_filter.mpr ⟨(zlv_mem ls 0 _).mpr ⟨j, u, hj, by rw [Nat.zero_add]⟩, ?_⟩)
    simp only [Bool.and_eq_true, Bool.not_eq_true', beq_eq_false_iff_ne, ne_eq, Bool.and_eq_false_imp, beq_iff_eq]
    refine ⟨hjk, fun e => ?_⟩
    subst e
    have h2 := ho.2
    simp only [hj] at h2
    match u, h2 with
    | .inl x, _ => simp [ztr, Value.category]
    | .inr (.inr n), _ => simp [ztr, Value.category]
def zin : List zV → List (Option zV)
  | [] => []
  | .inr (.inl x) :: r => some (.inr (.inl x)) :: none :: zin r
  | v :: r => some v :: zin r
theorem zin_lv {X : zX} : ∀ (as : List zV) (i : Nat) (pad : Nat) (q : Nat × Value), q ∈ zlv X i (zin as ++ List.replicate pad none) → q ∈ lv_args i (as.map (ztr X))
  | [], i, pad, q, h => by
    obtain ⟨k, v, hk, -⟩ := (zlv_mem _ _ _).mp h
    simp only [zin, List.nil_append] at hk
    have := List.mem_of_getElem? hk
    simp at this
  | .inl x :: r, i, pad, q, h => by
    rw [show zin (.inl x :: r) = some (.inl x) :: zin r from rfl, List.cons_append, zlv, List.mem_cons] at h
    rw [List.map_cons, lv_args, List.mem_cons]
    rcases h with h | h
    · exact Or.inl h
    · exact Or.inr (zin_lv r (i + 1) pad q h)
  | .inr (.inr n) :: r, i, pad, q, h => by
    rw [show zin (.inr (.inr n) :: r) = some (.inr (.inr n)) :: zin r from rfl, List.cons_append, zlv, List.mem_cons] at h
    rw [List.map_cons, lv_args, List.mem_cons]
    rcases h with h | h
    · exact Or.inl h
    · exact Or.inr (zin_lv r (i + 1) pad q h)
  | .inr (.inl x) :: r, i, pad, q, h => by
    rw [show zin (.inr (.inl x) :: r) = some (.inr (.inl x)) :: none :: zin r from rfl, List.cons_append, List.cons_append, zlv, zlv, List.mem_cons] at h
    rw [List.map_cons, lv_args, List.mem_cons]
    rcases h with h | h
    · exact Or.inl h
    · exact Or.inr (zin_lv r (i + 1 + 1) pad q h)
end
section
/-! INSTRUCTIONS: what each needs and gives, over names and numbers -/
abbrev zMth : Type := MethodName × ByteArray × Nat × Option FieldType
/-- place, instruction, length, a, b, number, long, switch, method, places of words -/
abbrev zEn : Type := Nat × Instr × Nat × Nat × Nat × Int32 × Int64 × List (Int × Nat) × Option zMth × List Nat
def zpush (r : Option zV) (st : List zV) : List zV := match r with
  | none => st
  | some v => v :: st
def zcat : zV → Nat
  | .inr (.inl _) => 2
  | _ => 1
def zsw (go : Nat → Prop) (x : Int32) : List (Int × Nat) → Nat → Prop
  | [], t => go t
  | (k, t) :: r, u => (x.toInt = k → go t) ∧ (¬ x.toInt = k → zsw go x r u)
/-- an array of numbers: kind, length -/
def zar (f i : Nat) : Option (Nat × Nat) := match zTab[f]? with
  | some (cnt, .inr (.inl (kd, len))) => if i < cnt then some (kd, len) else none
  | _ => none
def zam (f : Nat) : Option (Nat × Nat × Nat) := match zTab[f]? with
  | some (cnt, .inr (.inl (kd, len))) => some (cnt, kd, len)
  | _ => none
def zdo (L : Nat) (xs : Nat → Int32) (rt : Option FieldType) (call : zMth → List zV → zMu → (Option zV → zMu → Prop) → Prop) (K : Option zV → zMu → Prop) (go : Nat → List (Option zV) → List zV → zMu → Prop) (en : zEn) (ls : List (Option zV)) (st : List zV) (μ : zMu) : Prop :=
  match en with
  | (pc, ins, len, a, b, cv, lv, sw, M, _) =>
  match ins with
  | .iconst _ => go (pc + 1) ls (.inl cv :: st) μ
  | .bipush _ => go (pc + 2) ls (.inl cv :: st) μ
  | .sipush _ => go (pc + 3) ls (.inl cv :: st) μ
  | .lconst _ => go (pc + 1) ls (.inr (.inl lv) :: st) μ
  | .ldc _ => match M with
    | none => go (pc + 2) ls (.inl cv :: st) μ
    | some _ => go (pc + 2) ls (.inr (.inr (200, a)) :: st) μ
  | .ldc_w _ => go (pc + 3) ls (.inl cv :: st) μ
  | .ldc2_w _ => go (pc + 3) ls (.inr (.inl lv) :: st) μ
  | .iload k => match ls[k]? with
    | some (some (.inl x)) => go (pc + 2) ls (.inl x :: st) μ
    | _ => False
  | .iload_n k => match ls[(k : Nat)]? with
    | some (some (.inl x)) => go (pc + 1) ls (.inl x :: st) μ
    | _ => False
  | .lload k => match ls[k]? with
    | some (some (.inr (.inl x))) => go (pc + 2) ls (.inr (.inl x) :: st) μ
    | _ => False
  | .lload_n k => match ls[(k : Nat)]? with
    | some (some (.inr (.inl x))) => go (pc + 1) ls (.inr (.inl x) :: st) μ
    | _ => False
  | .aload k => match ls[k]? with
    | some (some (.inr (.inr n))) => go (pc + 2) ls (.inr (.inr n) :: st) μ
    | _ => False
  | .aload_n k => match ls[(k : Nat)]? with
    | some (some (.inr (.inr n))) => go (pc + 1) ls (.inr (.inr n) :: st) μ
    | _ => False
  | .istore k => match st with
    | .inl x :: r => zok ls k = true ∧ go (pc + 2) (ls.set k (some (.inl x))) r μ
    | _ => False
  | .istore_n k => match st with
    | .inl x :: r => zok ls (k : Nat) = true ∧ go (pc + 1) (ls.set (k : Nat) (some (.inl x))) r μ
    | _ => False
  | .astore k => match st with
    | .inr (.inr n) :: r => zok ls k = true ∧ go (pc + 2) (ls.set k (some (.inr (.inr n)))) r μ
    | _ => False
  | .astore_n k => match st with
    | .inr (.inr n) :: r => zok ls (k : Nat) = true ∧ go (pc + 1) (ls.set (k : Nat) (some (.inr (.inr n)))) r μ
    | _ => False
  | .iinc k _ => match ls[k]? with
    | some (some (.inl x)) => zok ls k = true ∧ go (pc + 3) (ls.set k (some (.inl (x + cv)))) st μ
    | _ => False
  | .iadd => match st with
    | .inl y :: .inl x :: r => go (pc + 1) ls (.inl (x + y) :: r) μ
    | _ => False
  | .isub => match st with
    | .inl y :: .inl x :: r => go (pc + 1) ls (.inl (x - y) :: r) μ
    | _ => False
  | .imul => match st with
    | .inl y :: .inl x :: r => go (pc + 1) ls (.inl (x * y) :: r) μ
    | _ => False
  | .iand => match st with
    | .inl y :: .inl x :: r => go (pc + 1) ls (.inl (x &&& y) :: r) μ
    | _ => False
  | .ior => match st with
    | .inl y :: .inl x :: r => go (pc + 1) ls (.inl (x ||| y) :: r) μ
    | _ => False
  | .ineg => match st with
    | .inl x :: r => go (pc + 1) ls (.inl (-x) :: r) μ
    | _ => False
  | .ishl => match st with
    | .inl y :: .inl x :: r => go (pc + 1) ls (.inl (x <<< (y &&& 31)) :: r) μ
    | _ => False
  | .ishr => match st with
    | .inl y :: .inl x :: r => go (pc + 1) ls (.inl (x >>> (y &&& 31)) :: r) μ
    | _ => False
  | .iushr => match st with
    | .inl y :: .inl x :: r => go (pc + 1) ls (.inl (x.toUInt32 >>> (y.toUInt32 &&& Int32.toUInt32 31)).toInt32 :: r) μ
    | _ => False
  | .i2l => match st with
    | .inl x :: r => go (pc + 1) ls (.inr (.inl x.toInt64) :: r) μ
    | _ => False
  | .l2i => match st with
    | .inr (.inl x) :: r => go (pc + 1) ls (.inl x.toInt32 :: r) μ
    | _ => False
  | .i2b => match st with
    | .inl x :: r => go (pc + 1) ls (.inl x.toInt8.toInt32 :: r) μ
    | _ => False
  | .land => match st with
    | .inr (.inl y) :: .inr (.inl x) :: r => go (pc + 1) ls (.inr (.inl (x &&& y)) :: r) μ
    | _ => False
  | .lor => match st with
    | .inr (.inl y) :: .inr (.inl x) :: r => go (pc + 1) ls (.inr (.inl (x ||| y)) :: r) μ
    | _ => False
  | .lshl => match st with
    | .inl y :: .inr (.inl x) :: r => go (pc + 1) ls (.inr (.inl (x <<< (y.toInt64 &&& 63))) :: r) μ
    | _ => False
  | .lshr => match st with
    | .inl y :: .inr (.inl x) :: r => go (pc + 1) ls (.inr (.inl (x >>> (y.toInt64 &&& 63))) :: r) μ
    | _ => False
  | .lushr => match st with
    | .inl y :: .inr (.inl x) :: r => go (pc + 1) ls (.inr (.inl (x.toUInt64 >>> (y.toInt64.toUInt64 &&& Int64.toUInt64 63)).toInt64) :: r) μ
    | _ => False
  | .lcmp => match st with
    | .inr (.inl y) :: .inr (.inl x) :: r => go (pc + 1) ls (.inl (lg_cmp x y) :: r) μ
    | _ => False
  | .dup => match st with
    | .inl x :: r => go (pc + 1) ls (.inl x :: .inl x :: r) μ
    | .inr (.inr n) :: r => go (pc + 1) ls (.inr (.inr n) :: .inr (.inr n) :: r) μ
    | _ => False
  | .dup2 => match st with
    | .inl x :: .inr (.inr n) :: r => go (pc + 1) ls (.inl x :: .inr (.inr n) :: .inl x :: .inr (.inr n) :: r) μ
    | _ => False
  | .pop => match st with
    | .inl _ :: r => go (pc + 1) ls r μ
    | _ => False
  | .goto _ => go a ls st μ
  | .ifCond c _ => match st with
    | .inl x :: r => match c with
      | .eq => (x = 0 → go a ls r μ) ∧ (¬ x = 0 → go (pc + 3) ls r μ)
      | .ne => (¬ x = 0 → go a ls r μ) ∧ (x = 0 → go (pc + 3) ls r μ)
      | .lt => (x < 0 → go a ls r μ) ∧ (¬ x < 0 → go (pc + 3) ls r μ)
      | .ge => (0 ≤ x → go a ls r μ) ∧ (¬ 0 ≤ x → go (pc + 3) ls r μ)
      | .gt => (0 < x → go a ls r μ) ∧ (¬ 0 < x → go (pc + 3) ls r μ)
      | .le => (x ≤ 0 → go a ls r μ) ∧ (¬ x ≤ 0 → go (pc + 3) ls r μ)
    | _ => False
  | .if_icmp c _ => match st with
    | .inl y :: .inl x :: r => match c with
      | .eq => (x = y → go a ls r μ) ∧ (¬ x = y → go (pc + 3) ls r μ)
      | .ne => (¬ x = y → go a ls r μ) ∧ (x = y → go (pc + 3) ls r μ)
      | .lt => (x < y → go a ls r μ) ∧ (¬ x < y → go (pc + 3) ls r μ)
      | .ge => (y ≤ x → go a ls r μ) ∧ (¬ y ≤ x → go (pc + 3) ls r μ)
      | .gt => (y < x → go a ls r μ) ∧ (¬ y < x → go (pc + 3) ls r μ)
      | .le => (x ≤ y → go a ls r μ) ∧ (¬ x ≤ y → go (pc + 3) ls r μ)
    | _ => False
  | .tableswitch _ _ _ _ => match st with
    | .inl x :: r => zsw (fun t => go t ls r μ) x sw a
    | _ => False
  | .lookupswitch _ _ => match st with
    | .inl x :: r => zsw (fun t => go t ls r μ) x sw a
    | _ => False
  | .getfield _ => match st with
    | .inr (.inr (f, i)) :: r => match zTab[f]? with
      | some (cnt, .inl (ci, fs)) => i < cnt ∧ ci = a ∧ (match fs[b]? with
        | some none => go (pc + 3) ls (.inl (μ f i b) :: r) μ
        | some (some g) => go (pc + 3) ls (.inr (.inr (g i)) :: r) μ
        | none => False)
      | _ => False
    | _ => False
  | .putfield _ => match st with
    | .inl x :: .inr (.inr (f, i)) :: r => match zTab[f]? with
      | some (cnt, .inl (ci, fs)) => i < cnt ∧ ci = a ∧ fs[b]? = some none ∧ (cv = 0 ∨ x = 0 ∨ x = 1) ∧ go (pc + 3) ls r (zu μ f i b x)
      | _ => False
    | _ => False
  | .arraylength => match st with
    | .inr (.inr (f, i)) :: r => if f = 201 then i = 0 ∧ go (pc + 1) ls (.inl (Int32.ofNat L) :: r) μ else match zam f with
      | some (cnt, _, len) => i < cnt ∧ go (pc + 1) ls (.inl (Int32.ofNat len) :: r) μ
      | none => False
    | _ => False
  | .iaload => match st with
    | .inl j :: .inr (.inr (f, i)) :: r => if f = 201 then i = 0 ∧ vp_in j L ∧ go (pc + 1) ls (.inl (xs j.toNatClampNeg) :: r) μ else match zam f with
      | some (cnt, 0, len) => i < cnt ∧ vp_in j len ∧ go (pc + 1) ls (.inl (μ f i j.toNatClampNeg) :: r) μ
      | _ => False
    | _ => False
  | .baload => match st with
    | .inl j :: .inr (.inr (f, i)) :: r => match zam f with
      | some (cnt, 1, len) => i < cnt ∧ vp_in j len ∧ go (pc + 1) ls (.inl (μ f i j.toNatClampNeg) :: r) μ
      | some (cnt, 2, len) => i < cnt ∧ vp_in j len ∧ go (pc + 1) ls (.inl (μ f i j.toNatClampNeg) :: r) μ
      | _ => False
    | _ => False
  | .caload => match st with
    | .inl j :: .inr (.inr (f, i)) :: r => match zam f with
      | some (cnt, 3, len) => i < cnt ∧ vp_in j len ∧ go (pc + 1) ls (.inl (μ f i j.toNatClampNeg) :: r) μ
      | _ => False
    | _ => False
  | .aaload => match st with
    | .inl j :: .inr (.inr (f, i)) :: r => match zTab[f]? with
      | some (cnt, .inr (.inr (_, len, g))) => i < cnt ∧ vp_in j len ∧ go (pc + 1) ls (.inr (.inr (g i j.toNatClampNeg)) :: r) μ
      | _ => False
    | _ => False
  | .iastore => match st with
    | .inl x :: .inl j :: .inr (.inr (f, i)) :: r => match zam f with
      | some (cnt, 0, len) => i < cnt ∧ vp_in j len ∧ go (pc + 1) ls r (zu μ f i j.toNatClampNeg x)
      | _ => False
    | _ => False
  | .bastore => match st with
    | .inl x :: .inl j :: .inr (.inr (f, i)) :: r => match zam f with
      | some (cnt, 1, len) => i < cnt ∧ vp_in j len ∧ go (pc + 1) ls r (zu μ f i j.toNatClampNeg (vp_nar .boolean x))
      | some (cnt, 2, len) => i < cnt ∧ vp_in j len ∧ go (pc + 1) ls r (zu μ f i j.toNatClampNeg (vp_nar .byte x))
      | _ => False
    | _ => False
  | .invokevirtual _ => match M with
    | some M => match st.drop b with
      | .inr (.inr (f, i)) :: r => (if f = 200 then a = 50 ∧ i < 13 else match zTab[f]? with
          | some (cnt, .inl (ci, _)) => i < cnt ∧ ci = a
          | _ => False) ∧ (r.map zcat).sum ≤ 8 ∧ call M (.inr (.inr (f, i)) :: (st.take b).reverse) μ (fun q μ' => go (pc + 3) ls (zpush q r) μ')
      | _ => False
    | none => False
  | .invokestatic _ => match M with
    | some M => b ≤ st.length ∧ ((st.drop b).map zcat).sum ≤ 8 ∧ call M (st.take b).reverse μ (fun q μ' => go (pc + 3) ls (zpush q (st.drop b)) μ')
    | none => match st with
      | .inl n :: .inl dp :: .inr (.inr (f1, i1)) :: .inl sp :: .inr (.inr (f0, i0)) :: r => match zam f0, zam f1 with
        | some (cnt0, 0, n0), some (cnt1, 0, n1) => i0 < cnt0 ∧ i1 < cnt1 ∧ ¬ sp < 0 ∧ ¬ dp < 0 ∧ ¬ n < 0 ∧ sp.toNatClampNeg + n.toNatClampNeg ≤ n0 ∧ dp.toNatClampNeg + n.toNatClampNeg ≤ n1 ∧ (r.map zcat).sum ≤ 8 ∧ go (pc + 3) ls r (fun f i k => if f = f1 ∧ i = i1 ∧ dp.toNatClampNeg ≤ k ∧ k < dp.toNatClampNeg + n.toNatClampNeg then μ f0 i0 (sp.toNatClampNeg + (k - dp.toNatClampNeg)) else μ f i k)
        | _, _ => False
      | _ => False
  | .ireturn => match st with
    | [.inl x] => (rt = some .int ∨ (rt = some .boolean ∧ (x = 0 ∨ x = 1))) ∧ K (some (.inl x)) μ
    | _ => False
  | .return_ => match st with
    | [] => rt = none ∧ K none μ
    | _ => False
  | _ => False
/-- the word at a place of the tables -/
def zwd (h : List Nat) (k : Nat) (w : Cond) : Bool := match h[k]? with
  | some j => decide (lw_tbl[j]? = some w)
  | none => false
def zcn : Nat → String := fun c => if c = 50 then "java/lang/String" else (zcl[c]?.map (·.1)).getD ""
def zlink (own : String) (pc : Nat) (ins : Instr) (len a b : Nat) (cv : Int32) (lv : Int64) (sw : List (Int × Nat)) (M : Option zMth) (h : List Nat) : Bool :=
  match ins with
  | .iload _ | .lload _ | .aload _ | .istore _ | .astore _ => decide (len = 2)
  | .iconst n => decide (len = 1) && decide (Int32.ofInt n = cv)
  | .bipush n => decide (len = 2) && decide ((Int8.ofInt n).toInt32 = cv)
  | .sipush n => decide (len = 3) && decide ((Int16.ofInt n).toInt32 = cv)
  | .lconst n => decide (len = 1) && decide (Int64.ofNat (n : Nat) = lv)
  | .iinc _ n => decide (len = 3) && decide (Int32.ofInt n = cv)
  | .ldc i => decide (len = 2) && (match M with
    | none => zwd h 0 (.constant own i cv)
    | some _ => decide (own = RX8) && decide (zStr[a]?.map (·.1) = some i))
  | .ldc_w i => decide (len = 3) && zwd h 0 (.constant own i cv)
  | .ldc2_w i => decide (len = 3) && zwd h 0 (.constantLong own i lv)
  | .goto o | .ifCond _ o | .if_icmp _ o => decide (len = 3) && decide ((pc : Int) + o = (a : Int))
  | .tableswitch df lo hi offs => decide ((pc : Int) + df = (a : Int)) && decide (hi - lo + 1 = sw.length) && decide (sw.length = offs.size) && decide (0 < sw.length) && (List.range sw.length).all (fun j => match sw[j]?, offs[j]? with
    | some (k, t), some o => decide (k = lo + j) && decide ((pc : Int) + o = (t : Int))
    | _, _ => false)
  | .lookupswitch df ps => decide ((pc : Int) + df = (a : Int)) && (ps.toList.zip (ps.toList.drop 1)).all (fun (a, next) => decide (a.1 < next.1)) && decide (sw.map (fun q => (q.1, (q.2 : Int))) = ps.toList.map (fun q => (q.1, (pc : Int) + q.2)))
  | .getfield i => decide (len = 3) && (match zcl[a]? with
    | some (_, T, N) => decide (b < N) && zwd h 0 (.fieldLink own i (T b).1 (T b).2.1 (T b).2.2.1)
    | none => false)
  | .putfield i => decide (len = 3) && (match zcl[a]? with
    | some (_, T, N) => decide (b < N) && zwd h 0 (.fieldLink own i (T b).1 (T b).2.1 (T b).2.2.1) && !(T b).2.2.2 && (decide (zty a b = .int) || (decide (zty a b = .boolean) && decide (cv = 1)))
    | none => false)
  | .invokevirtual i => decide (len = 3) && (match M with
    | some (y, bt, mL, rt) => zwd h 0 (.methodLink own i y) && zwd h 1 (.instanceMethod y) && zwd h 2 (.selects y.cls y y) && zwd h 3 (.initialized y.cls) && zwd h 4 (.code y bt mL rt) && decide (y.cls = zcn a) && decide (y.cls ≠ "java/lang/invoke/MethodHandle") && decide (y.cls ≠ "java/lang/invoke/VarHandle") && decide ((parseMethodDescriptor y.desc).map (fun d => d.parameters.length) = some b) && decide (mL ≤ 40)
    | none => false)
  | .invokestatic i => decide (len = 3) && (match M with
    | some (y, bt, mL, rt) => zwd h 0 (.methodLink own i y) && zwd h 1 (.static y) && zwd h 2 (.initialized y.cls) && zwd h 3 (.code y bt mL rt) && decide (y.cls ≠ "java/lang/invoke/MethodHandle") && decide (y.cls ≠ "java/lang/invoke/VarHandle") && decide ((parseMethodDescriptor y.desc).map (fun d => d.parameters.length) = some b) && decide (mL ≤ 40)
    | none => zwd h 0 (.methodLink own i arraycopyName) && zwd h 1 (.native arraycopyName) && zwd h 2 (.static arraycopyName) && zwd h 3 (.initialized "java/lang/System"))
  | _ => decide (len = 1)
def zchk (own : String) (cc : ByteArray) (en : zEn) : Bool := match en with
  | (pc, ins, len, a, b, cv, lv, sw, M, h) => decide (decode cc pc = .ok (ins, len)) && zlink own pc ins len a b cv lv sw M h
def zfet (P : List zEn) (pc : Nat) : Option zEn := P.find? (fun e => Nat.beq e.1 pc)
-- ---- contracts
def zrm (d : Nat) : Room := { frames := d + 1, cells := 0, slots := 0, locals := 100 * (d + 1) }
def zws (M : zMth) : List Cond := .code M.1 M.2.1 M.2.2.1 M.2.2.2 :: zT
def zPc (X : zX) (as : List zV) (μ : zMu) : Array Value → State → Prop := va_Pc (as.map (ztr X)) (fun U => zSt X U ∧ zRep X μ U U.heap)
def zQc (X : zX) (K : Option zV → zMu → Prop) : Array Value → State → Outcome → State → Prop := fun _ st oc t => (∃ (r : Option zV) (μ' : zMu), oc = .returned (r.map (ztr X)) ∧ K r μ' ∧ zRep X μ' t t.heap) ∧ va_F (zA X) st t
/-- by a recursion that never goes on: so nothing unfolds it by itself -/
def Ct0 (n d : Nat) (M : zMth) (as : List zV) (μ : zMu) (K : Option zV → zMu → Prop) : Prop := if n = 0 then ∀ (l : Launch) (X : zX), Met l M.1 (zws M) (zrm d) (zPc X as μ) (zQc X K) 0 0 (zA X) else Ct0 (n - 1) d M as μ K
termination_by n
decreasing_by omega
abbrev Ct (d : Nat) (M : zMth) (as : List zV) (μ : zMu) (K : Option zV → zMu → Prop) : Prop := Ct0 0 d M as μ K
theorem Ct_iff {d : Nat} {M : zMth} {as : List zV} {μ : zMu} {K : Option zV → zMu → Prop} : Ct d M as μ K ↔ ∀ (l : Launch) (X : zX), Met l M.1 (zws M) (zrm d) (zPc X as μ) (zQc X K) 0 0 (zA X) := by
  unfold Ct Ct0
  rw [if_pos rfl]
def zOK (M : zMth) (P : List zEn) : Prop := P.all (zchk M.1.cls M.2.1) = true
def zCa (d : Nat) : zMth → List zV → zMu → (Option zV → zMu → Prop) → Prop := match d with
  | 0 => fun _ _ _ _ => False
  | d + 1 => fun M as μ K => Ct d M as μ K
end
section
/-! the methods: name, bytes, locals, answer -/
def m_Ca_add : zMth := (yX0_add, cX0_add, 4, none)
def m_Ca_settleOldest : zMth := (yX0_settleOldest, cX0_settleOldest, 4, some .boolean)
def m_Ca_settleAll : zMth := (yX0_settleAll, cX0_settleAll, 5, some .int)
def m_Ca_find : zMth := (yX0_find, cX0_find, 5, some .int)
def m_Ca_isLate : zMth := (yX0_isLate, cX0_isLate, 3, some .boolean)
def m_Ca_isBetween : zMth := (yX0_isBetween, cX0_isBetween, 4, some .boolean)
def m_Ca_remove : zMth := (yX0_remove, cX0_remove, 3, none)
def m_Ha_hasTable : zMth := (yX1_hasTable, cX1_hasTable, 2, some .boolean)
def m_Ha_hasSeat : zMth := (yX1_hasSeat, cX1_hasSeat, 3, some .boolean)
def m_Ha_addTable : zMth := (yX1_addTable, cX1_addTable, 3, some .int)
def m_Ha_setFeud : zMth := (yX1_setFeud, cX1_setFeud, 5, some .int)
def m_Ha_setCost : zMth := (yX1_setCost, cX1_setCost, 5, some .int)
def m_Ha_emptySeatsOf : zMth := (yX1_emptySeatsOf, cX1_emptySeatsOf, 3, none)
def m_Ha_numberPlaces : zMth := (yX1_numberPlaces, cX1_numberPlaces, 6, none)
def m_Ha_priceOf : zMth := (yX1_priceOf, cX1_priceOf, 5, some .int)
def m_Ha_isPeaceful : zMth := (yX1_isPeaceful, cX1_isPeaceful, 3, some .boolean)
def m_Ha_priceAt : zMth := (yX1_priceAt, cX1_priceAt, 5, some .int)
def m_Ha_isPeacefulAt : zMth := (yX1_isPeacefulAt, cX1_isPeacefulAt, 5, some .boolean)
def m_Ha_sitterAt : zMth := (yX1_sitterAt, cX1_sitterAt, 2, some .int)
def m_Ha_talkCost : zMth := (yX1_talkCost, cX1_talkCost, 3, some .int)
def m_Ha_areFeuding : zMth := (yX1_areFeuding, cX1_areFeuding, 3, some .boolean)
def m_Ha_tongueOf : zMth := (yX1_tongueOf, cX1_tongueOf, 2, some .int)
def m_Ha_homeOf : zMth := (yX1_homeOf, cX1_homeOf, 2, some .int)
def m_Pr_form : zMth := (yX2_form, cX2_form, 5, none)
def m_Pr_takeNext : zMth := (yX2_takeNext, cX2_takeNext, 2, none)
def m_Pr_leastLeft : zMth := (yX2_leastLeft, cX2_leastLeft, 2, some .int)
def m_Pr_leastUnled : zMth := (yX2_leastUnled, cX2_leastUnled, 2, some .int)
def m_Pr_leastAheadOf : zMth := (yX2_leastAheadOf, cX2_leastAheadOf, 3, some .int)
def m_Pr_tellRing : zMth := (yX2_tellRing, cX2_tellRing, 5, none)
def m_Ro_isTongue : zMth := (yX3_isTongue, cX3_isTongue, 1, some .boolean)
def m_Ro_isStateAsTold : zMth := (yX3_isStateAsTold, cX3_isStateAsTold, 2, some .boolean)
def m_Ro_isPersonAsTold : zMth := (yX3_isPersonAsTold, cX3_isPersonAsTold, 3, some .boolean)
def m_Ro_isOfAnother : zMth := (yX3_isOfAnother, cX3_isOfAnother, 1, some .boolean)
def m_Ro_hasState : zMth := (yX3_hasState, cX3_hasState, 2, some .boolean)
def m_Ro_hasPerson : zMth := (yX3_hasPerson, cX3_hasPerson, 2, some .boolean)
def m_Ro_canBeOf : zMth := (yX3_canBeOf, cX3_canBeOf, 3, some .boolean)
def m_Ro_isSetOfPersons : zMth := (yX3_isSetOfPersons, cX3_isSetOfPersons, 2, some .boolean)
def m_Ro_addState : zMth := (yX3_addState, cX3_addState, 3, some .int)
def m_Ro_addPerson : zMth := (yX3_addPerson, cX3_addPerson, 7, some .int)
def m_Ro_handPaper : zMth := (yX3_handPaper, cX3_handPaper, 5, some .int)
def m_Ro_moveHome : zMth := (yX3_moveHome, cX3_moveHome, 5, none)
def m_Ro_setHome : zMth := (yX3_setHome, cX3_setHome, 3, none)
def m_Ro_refreshFields : zMth := (yX3_refreshFields, cX3_refreshFields, 2, none)
def m_Ro_isOfKind : zMth := (yX3_isOfKind, cX3_isOfKind, 3, some .boolean)
def m_Ro_isIn : zMth := (yX3_isIn, cX3_isIn, 2, some .boolean)
def m_Ro_areAllPresent : zMth := (yX3_areAllPresent, cX3_areAllPresent, 3, some .boolean)
def m_Ro_countPresent : zMth := (yX3_countPresent, cX3_countPresent, 3, some .int)
def m_Ro_rankOf : zMth := (yX3_rankOf, cX3_rankOf, 2, some .int)
def m_Ro_ownRankOf : zMth := (yX3_ownRankOf, cX3_ownRankOf, 2, some .int)
def m_Ro_paperOf : zMth := (yX3_paperOf, cX3_paperOf, 2, some .int)
def m_Ro_eldestWithPaper : zMth := (yX3_eldestWithPaper, cX3_eldestWithPaper, 3, some .int)
def m_Ro_canBeDean : zMth := (yX3_canBeDean, cX3_canBeDean, 3, some .boolean)
def m_Ro_isElder : zMth := (yX3_isElder, cX3_isElder, 5, some .boolean)
def m_Ru_isFor : zMth := (yX4_isFor, cX4_isFor, 3, some .boolean)
def m_Ru_verdict : zMth := (yX4_verdict, cX4_verdict, 8, some .int)
def m_Ru_holds : zMth := (yX4_holds, cX4_holds, 7, some .boolean)
def m_Ru_isAsTold : zMth := (yX4_isAsTold, cX4_isAsTold, 3, some .boolean)
def m_Bo_hasRule : zMth := (yX5_hasRule, cX5_hasRule, 2, some .boolean)
def m_Bo_addHand : zMth := (yX5_addHand, cX5_addHand, 3, some .int)
def m_Bo_toldByHand : zMth := (yX5_toldByHand, cX5_toldByHand, 4, some .int)
def m_Bo_leader : zMth := (yX5_leader, cX5_leader, 7, some .int)
def m_Bo_goingRule : zMth := (yX5_goingRule, cX5_goingRule, 8, some .int)
def m_Bo_contraryRule : zMth := (yX5_contraryRule, cX5_contraryRule, 8, some .int)
def m_Se_arrange : zMth := (yX6_arrange, cX6_arrange, 4, some .int)
def m_Se_gatherGuests : zMth := (yX6_gatherGuests, cX6_gatherGuests, 3, none)
def m_Se_fillFrom : zMth := (yX6_fillFrom, cX6_fillFrom, 5, none)
def m_Tb_open : zMth := (yX7_open, cX7_open, 3, none)
def m_Tb_lowerBeside : zMth := (yX7_lowerBeside, cX7_lowerBeside, 2, some .int)
def m_Tb_lowerAround : zMth := (yX7_lowerAround, cX7_lowerAround, 2, some .int)
def m_Tb_lowerFacing : zMth := (yX7_lowerFacing, cX7_lowerFacing, 3, some .int)
def m_Tb_put : zMth := (yX7_put, cX7_put, 4, some .int)
def m_Tb_removePerson : zMth := (yX7_removePerson, cX7_removePerson, 3, none)
def m_Tb_moveUp : zMth := (yX7_moveUp, cX7_moveUp, 4, some .int)
def m_Tb_sittersAsSet : zMth := (yX7_sittersAsSet, cX7_sittersAsSet, 3, some .int)
def m_Tp_append : zMth := (yX8_append, cX8_append, 5, some .int)
def m_Tp_clear : zMth := (yX8_clear, cX8_clear, 2, some .int)
def m_Tp_readInto : zMth := (yX8_readInto, cX8_readInto, 2, some .int)
def m_Tp_readHead : zMth := (yX8_readHead, cX8_readHead, 2, none)
def m_Tp_readTests : zMth := (yX8_readTests, cX8_readTests, 3, none)
def m_Tp_readTest : zMth := (yX8_readTest, cX8_readTest, 4, none)
def m_Tp_readWord : zMth := (yX8_readWord, cX8_readWord, 8, some .int)
def m_Tp_readBlank : zMth := (yX8_readBlank, cX8_readBlank, 1, none)
def m_Tp_readNumber : zMth := (yX8_readNumber, cX8_readNumber, 3, some .int)
def m_Tp_isDigit : zMth := (yX8_isDigit, cX8_isDigit, 1, some .boolean)
def m_Tp_byteAt : zMth := (yX8_byteAt, cX8_byteAt, 2, some .int)
def m_Tp_hasMore : zMth := (yX8_hasMore, cX8_hasMore, 1, some .boolean)
def m_Tp_fail : zMth := (yX8_fail, cX8_fail, 2, none)
def m_De_state : zMth := (yX9_state, cX9_state, 3, some .int)
def m_De_person : zMth := (yX9_person, cX9_person, 8, some .int)
def m_De_paper : zMth := (yX9_paper, cX9_paper, 3, some .int)
def m_De_there : zMth := (yX9_there, cX9_there, 4, some .int)
def m_De_split : zMth := (yX9_split, cX9_split, 6, some .int)
def m_De_about : zMth := (yX9_about, cX9_about, 3, some .int)
def m_De_feed : zMth := (yX9_feed, cX9_feed, 4, some .int)
def m_De_wipe : zMth := (yX9_wipe, cX9_wipe, 1, some .int)
def m_De_rule : zMth := (yX9_rule, cX9_rule, 5, some .int)
def m_De_ends : zMth := (yX9_ends, cX9_ends, 5, some .int)
def m_De_decides : zMth := (yX9_decides, cX9_decides, 6, some .int)
def m_De_hand : zMth := (yX9_hand, cX9_hand, 3, some .int)
def m_De_ahead : zMth := (yX9_ahead, cX9_ahead, 5, some .int)
def m_De_why : zMth := (yX9_why, cX9_why, 5, some .int)
def m_De_quarrel : zMth := (yX9_quarrel, cX9_quarrel, 5, some .int)
def m_De_order : zMth := (yX9_order, cX9_order, 4, some .int)
def m_De_ring : zMth := (yX9_ring, cX9_ring, 4, some .int)
def m_De_dean : zMth := (yX9_dean, cX9_dean, 1, some .int)
def m_De_table : zMth := (yX9_table, cX9_table, 3, some .int)
def m_De_feud : zMth := (yX9_feud, cX9_feud, 4, some .int)
def m_De_talk : zMth := (yX9_talk, cX9_talk, 4, some .int)
def m_De_sit : zMth := (yX9_sit, cX9_sit, 4, some .int)
def m_De_price : zMth := (yX9_price, cX9_price, 4, some .int)
def m_De_keeps : zMth := (yX9_keeps, cX9_keeps, 2, some .int)
def m_De_lay : zMth := (yX9_lay, cX9_lay, 9, some .int)
def m_De_close : zMth := (yX9_close, cX9_close, 2, some .int)
def m_De_seat : zMth := (yX9_seat, cX9_seat, 3, some .int)
def m_De_visit : zMth := (yX9_visit, cX9_visit, 4, some .int)
def m_De_card : zMth := (yX9_card, cX9_card, 3, some .int)
def m_De_owes : zMth := (yX9_owes, cX9_owes, 5, some .int)
def m_De_within : zMth := (yX9_within, cX9_within, 3, some .int)
def m_De_count : zMth := (yX9_count, cX9_count, 2, some .int)
def m_De_isOccasion : zMth := (yX9_isOccasion, cX9_isOccasion, 2, some .boolean)
def m_De_areTwo : zMth := (yX9_areTwo, cX9_areTwo, 3, some .boolean)
def m_Mo_isIn : zMth := (yX10_isIn, cX10_isIn, 6, some .boolean)
def m_Mo_isPerson : zMth := (yX10_isPerson, cX10_isPerson, 2, some .boolean)
def m_Mo_isState : zMth := (yX10_isState, cX10_isState, 2, some .boolean)
def m_Mo_state : zMth := (yX10_state, cX10_state, 3, some .int)
def m_Mo_person : zMth := (yX10_person, cX10_person, 8, some .int)
def m_Mo_paper : zMth := (yX10_paper, cX10_paper, 4, some .int)
def m_Mo_there : zMth := (yX10_there, cX10_there, 5, some .int)
def m_Mo_split : zMth := (yX10_split, cX10_split, 7, some .int)
def m_Mo_plainRank : zMth := (yX10_plainRank, cX10_plainRank, 2, some .int)
def m_Mo_shown : zMth := (yX10_shown, cX10_shown, 1, some .int)
def m_Mo_field : zMth := (yX10_field, cX10_field, 4, some .int)
def m_Mo_about : zMth := (yX10_about, cX10_about, 3, some .int)
def m_Mo_feed : zMth := (yX10_feed, cX10_feed, 5, some .int)
def m_Mo_wipe : zMth := (yX10_wipe, cX10_wipe, 2, some .int)
def m_Mo_letter : zMth := (yX10_letter, cX10_letter, 1, some .int)
def m_Mo_expect : zMth := (yX10_expect, cX10_expect, 4, none)
def m_Mo_word : zMth := (yX10_word, cX10_word, 7, some .int)
def m_Mo_oneOf : zMth := (yX10_oneOf, cX10_oneOf, 6, some .int)
def m_Mo_isDigit : zMth := (yX10_isDigit, cX10_isDigit, 1, some .boolean)
def m_Mo_readTest : zMth := (yX10_readTest, cX10_readTest, 4, none)
def m_Mo_readTests : zMth := (yX10_readTests, cX10_readTests, 3, none)
def m_Mo_read : zMth := (yX10_read, cX10_read, 2, none)
def m_Mo_rule : zMth := (yX10_rule, cX10_rule, 3, some .int)
def m_Mo_ends : zMth := (yX10_ends, cX10_ends, 4, some .int)
def m_Mo_holds : zMth := (yX10_holds, cX10_holds, 7, some .boolean)
def m_Mo_areTested : zMth := (yX10_areTested, cX10_areTested, 8, some .boolean)
def m_Mo_decided : zMth := (yX10_decided, cX10_decided, 9, some .int)
def m_Mo_isAsked : zMth := (yX10_isAsked, cX10_isAsked, 5, some .boolean)
def m_Mo_decides : zMth := (yX10_decides, cX10_decides, 6, some .int)
def m_Mo_hand : zMth := (yX10_hand, cX10_hand, 3, some .int)
def m_Mo_handOf : zMth := (yX10_handOf, cX10_handOf, 5, some .int)
def m_Mo_goes : zMth := (yX10_goes, cX10_goes, 7, some .int)
def m_Mo_first : zMth := (yX10_first, cX10_first, 7, some .int)
def m_Mo_ahead : zMth := (yX10_ahead, cX10_ahead, 5, some .int)
def m_Mo_why : zMth := (yX10_why, cX10_why, 5, some .int)
def m_Mo_quarrel : zMth := (yX10_quarrel, cX10_quarrel, 7, some .int)
def m_Mo_leastAhead : zMth := (yX10_leastAhead, cX10_leastAhead, 5, some .int)
def m_Mo_findRing : zMth := (yX10_findRing, cX10_findRing, 8, none)
def m_Mo_findOrder : zMth := (yX10_findOrder, cX10_findOrder, 7, none)
def m_Mo_isOccasion : zMth := (yX10_isOccasion, cX10_isOccasion, 2, some .boolean)
def m_Mo_order : zMth := (yX10_order, cX10_order, 4, some .int)
def m_Mo_ring : zMth := (yX10_ring, cX10_ring, 4, some .int)
def m_Mo_dean : zMth := (yX10_dean, cX10_dean, 4, some .int)
def m_Mo_isTable : zMth := (yX10_isTable, cX10_isTable, 2, some .boolean)
def m_Mo_table : zMth := (yX10_table, cX10_table, 4, some .int)
def m_Mo_feud : zMth := (yX10_feud, cX10_feud, 5, some .int)
def m_Mo_talk : zMth := (yX10_talk, cX10_talk, 5, some .int)
def m_Mo_sit : zMth := (yX10_sit, cX10_sit, 6, some .int)
def m_Mo_take : zMth := (yX10_take, cX10_take, 3, none)
def m_Mo_areFeuding : zMth := (yX10_areFeuding, cX10_areFeuding, 3, some .boolean)
def m_Mo_behind : zMth := (yX10_behind, cX10_behind, 2, some .int)
def m_Mo_areBeside : zMth := (yX10_areBeside, cX10_areBeside, 3, some .boolean)
def m_Mo_isKept : zMth := (yX10_isKept, cX10_isKept, 5, some .boolean)
def m_Mo_priceOf : zMth := (yX10_priceOf, cX10_priceOf, 7, some .int)
def m_Mo_price : zMth := (yX10_price, cX10_price, 4, some .int)
def m_Mo_keeps : zMth := (yX10_keeps, cX10_keeps, 2, some .int)
def m_Mo_isNext : zMth := (yX10_isNext, cX10_isNext, 7, some .boolean)
def m_Mo_begin : zMth := (yX10_begin, cX10_begin, 4, some .int)
def m_Mo_countBits : zMth := (yX10_countBits, cX10_countBits, 3, some .int)
def m_Mo_lay : zMth := (yX10_lay, cX10_lay, 10, some .int)
def m_Mo_close : zMth := (yX10_close, cX10_close, 5, some .int)
def m_Mo_seat : zMth := (yX10_seat, cX10_seat, 3, some .int)
def m_Mo_forget : zMth := (yX10_forget, cX10_forget, 3, none)
def m_Mo_oldest : zMth := (yX10_oldest, cX10_oldest, 4, some .int)
def m_Mo_visit : zMth := (yX10_visit, cX10_visit, 5, some .int)
def m_Mo_card : zMth := (yX10_card, cX10_card, 4, some .int)
def m_Mo_owes : zMth := (yX10_owes, cX10_owes, 6, some .int)
def m_Mo_within : zMth := (yX10_within, cX10_within, 3, some .int)
def m_Mo_count : zMth := (yX10_count, cX10_count, 4, some .int)
def m_Jint_bitCount : zMth := (yJ6_bitCount_0f7a4, cJ6_bitCount_0f7a4, 1, some .int)
def m_Jmath_abs : zMth := (yJ9_abs_0f7a4, cJ9_abs_0f7a4, 1, some .int)
def m_Jmath_max : zMth := (yJ9_max_7cf53, cJ9_max_7cf53, 2, some .int)
def m_Jmath_min : zMth := (yJ9_min_7cf53, cJ9_min_7cf53, 2, some .int)
def m_Jarr_fill : zMth := (yJ7_fill_53178, cJ7_fill_53178, 4, none)
def m_Jstr_length : zMth := (yJ0_length_8abf5, cJ0_length_8abf5, 1, some .int)
def m_Jstr_charAt : zMth := (yJ0_charAt_5068e, cJ0_charAt_5068e, 2, some .char)
end
section
def P_Ca_add : List zEn := [
  (0, .aload_n 0, 1, 0, 0, 0, 0, [], none, []),
  (1, .getfield 19, 3, 0, 3, 0, 0, [], none, [379]),
  (4, .aload_n 0, 1, 0, 0, 0, 0, [], none, []),
  (5, .getfield 25, 3, 0, 0, 0, 0, [], none, [373]),
  (8, .iload_n 1, 1, 0, 0, 0, 0, [], none, []),
  (9, .iastore, 1, 0, 0, 0, 0, [], none, []),
  (10, .aload_n 0, 1, 0, 0, 0, 0, [], none, []),
  (11, .getfield 15, 3, 0, 2, 0, 0, [], none, [377]),
  (14, .aload_n 0, 1, 0, 0, 0, 0, [], none, []),
  (15, .getfield 25, 3, 0, 0, 0, 0, [], none, [373]),
  (18, .iload_n 2, 1, 0, 0, 0, 0, [], none, []),
  (19, .iastore, 1, 0, 0, 0, 0, [], none, []),
  (20, .aload_n 0, 1, 0, 0, 0, 0, [], none, []),
  (21, .getfield 22, 3, 0, 4, 0, 0, [], none, [380]),
  (24, .aload_n 0, 1, 0, 0, 0, 0, [], none, []),
  (25, .getfield 25, 3, 0, 0, 0, 0, [], none, [373]),
  (28, .iload_n 3, 1, 0, 0, 0, 0, [], none, []),
  (29, .iastore, 1, 0, 0, 0, 0, [], none, []),
  (30, .aload_n 0, 1, 0, 0, 0, 0, [], none, []),
  (31, .dup, 1, 0, 0, 0, 0, [], none, []),
  (32, .getfield 25, 3, 0, 0, 0, 0, [], none, [373]),
  (35, .iconst 1, 1, 0, 0, 1, 0, [], none, []),
  (36, .iadd, 1, 0, 0, 0, 0, [], none, []),
  (37, .putfield 25, 3, 0, 0, 0, 0, [], none, [373]),
  (40, .return_, 1, 0, 0, 0, 0, [], none, [])]
theorem k_Ca_add : zOK m_Ca_add P_Ca_add := (by decide +kernel : P_Ca_add.all (zchk m_Ca_add.1.cls m_Ca_add.2.1) = true)

def P_Ca_settleOldest : List zEn := [
  (0, .iconst 0, 1, 0, 0, 0, 0, [], none, []),
  (1, .istore_n 3, 1, 0, 0, 0, 0, [], none, []),
  (2, .iload_n 3, 1, 0, 0, 0, 0, [], none, []),
  (3, .aload_n 0, 1, 0, 0, 0, 0, [], none, []),
  (4, .getfield 25, 3, 0, 0, 0, 0, [], none, [373]),
  (7, .if_icmp .ge 26, 3, 33, 0, 0, 0, [], none, []),
  (10, .aload_n 0, 1, 0, 0, 0, 0, [], none, []),
  (11, .iload_n 3, 1, 0, 0, 0, 0, [], none, []),
  (12, .iload_n 1, 1, 0, 0, 0, 0, [], none, []),
  (13, .iload_n 2, 1, 0, 0, 0, 0, [], none, []),
  (14, .invokevirtual 28, 3, 0, 3, 0, 0, [], some m_Ca_isBetween, [950, 952, 32, 75, 953]),
  (17, .ifCond .eq 10, 3, 27, 0, 0, 0, [], none, []),
  (20, .aload_n 0, 1, 0, 0, 0, 0, [], none, []),
  (21, .iload_n 3, 1, 0, 0, 0, 0, [], none, []),
  (22, .invokevirtual 32, 3, 0, 1, 0, 0, [], some m_Ca_remove, [954, 956, 33, 75, 957]),
  (25, .iconst 1, 1, 0, 0, 1, 0, [], none, []),
  (26, .ireturn, 1, 0, 0, 0, 0, [], none, []),
  (27, .iinc 3 1, 3, 0, 0, 1, 0, [], none, []),
  (30, .goto (-28), 3, 2, 0, 0, 0, [], none, []),
  (33, .iconst 0, 1, 0, 0, 0, 0, [], none, []),
  (34, .ireturn, 1, 0, 0, 0, 0, [], none, [])]
theorem k_Ca_settleOldest : zOK m_Ca_settleOldest P_Ca_settleOldest := (by decide +kernel : P_Ca_settleOldest.all (zchk m_Ca_settleOldest.1.cls m_Ca_settleOldest.2.1) = true)

def P_Ca_settleAll : List zEn := [
  (0, .iconst 0, 1, 0, 0, 0, 0, [], none, []),
  (1, .istore_n 3, 1, 0, 0, 0, 0, [], none, []),
  (2, .aload_n 0, 1, 0, 0, 0, 0, [], none, []),
  (3, .getfield 25, 3, 0, 0, 0, 0, [], none, [373]),
  (6, .iconst 1, 1, 0, 0, 1, 0, [], none, []),
  (7, .isub, 1, 0, 0, 0, 0, [], none, []),
  (8, .istore 4, 2, 0, 0, 0, 0, [], none, []),
  (10, .iload 4, 2, 0, 0, 0, 0, [], none, []),
  (12, .ifCond .lt 29, 3, 41, 0, 0, 0, [], none, []),
  (15, .aload_n 0, 1, 0, 0, 0, 0, [], none, []),
  (16, .iload 4, 2, 0, 0, 0, 0, [], none, []),
  (18, .iload_n 1, 1, 0, 0, 0, 0, [], none, []),
  (19, .iload_n 2, 1, 0, 0, 0, 0, [], none, []),
  (20, .invokevirtual 28, 3, 0, 3, 0, 0, [], some m_Ca_isBetween, [950, 952, 32, 75, 953]),
  (23, .ifCond .eq 12, 3, 35, 0, 0, 0, [], none, []),
  (26, .aload_n 0, 1, 0, 0, 0, 0, [], none, []),
  (27, .iload 4, 2, 0, 0, 0, 0, [], none, []),
  (29, .invokevirtual 32, 3, 0, 1, 0, 0, [], some m_Ca_remove, [954, 956, 33, 75, 957]),
  (32, .iinc 3 1, 3, 0, 0, 1, 0, [], none, []),
  (35, .iinc 4 (-1), 3, 0, 0, -1, 0, [], none, []),
  (38, .goto (-28), 3, 10, 0, 0, 0, [], none, []),
  (41, .iload_n 3, 1, 0, 0, 0, 0, [], none, []),
  (42, .ireturn, 1, 0, 0, 0, 0, [], none, [])]
theorem k_Ca_settleAll : zOK m_Ca_settleAll P_Ca_settleAll := (by decide +kernel : P_Ca_settleAll.all (zchk m_Ca_settleAll.1.cls m_Ca_settleAll.2.1) = true)

def P_Ca_find : List zEn := [
  (0, .iconst 0, 1, 0, 0, 0, 0, [], none, []),
  (1, .istore_n 3, 1, 0, 0, 0, 0, [], none, []),
  (2, .iconst 0, 1, 0, 0, 0, 0, [], none, []),
  (3, .istore 4, 2, 0, 0, 0, 0, [], none, []),
  (5, .iload 4, 2, 0, 0, 0, 0, [], none, []),
  (7, .aload_n 0, 1, 0, 0, 0, 0, [], none, []),
  (8, .getfield 25, 3, 0, 0, 0, 0, [], none, [373]),
  (11, .if_icmp .ge 31, 3, 42, 0, 0, 0, [], none, []),
  (14, .aload_n 0, 1, 0, 0, 0, 0, [], none, []),
  (15, .getfield 19, 3, 0, 3, 0, 0, [], none, [379]),
  (18, .iload 4, 2, 0, 0, 0, 0, [], none, []),
  (20, .iaload, 1, 0, 0, 0, 0, [], none, []),
  (21, .iload_n 1, 1, 0, 0, 0, 0, [], none, []),
  (22, .if_icmp .ne 14, 3, 36, 0, 0, 0, [], none, []),
  (25, .iload_n 3, 1, 0, 0, 0, 0, [], none, []),
  (26, .iload_n 2, 1, 0, 0, 0, 0, [], none, []),
  (27, .if_icmp .ne 6, 3, 33, 0, 0, 0, [], none, []),
  (30, .iload 4, 2, 0, 0, 0, 0, [], none, []),
  (32, .ireturn, 1, 0, 0, 0, 0, [], none, []),
  (33, .iinc 3 1, 3, 0, 0, 1, 0, [], none, []),
  (36, .iinc 4 1, 3, 0, 0, 1, 0, [], none, []),
  (39, .goto (-34), 3, 5, 0, 0, 0, [], none, []),
  (42, .iconst (-1), 1, 0, 0, -1, 0, [], none, []),
  (43, .ireturn, 1, 0, 0, 0, 0, [], none, [])]
theorem k_Ca_find : zOK m_Ca_find P_Ca_find := (by decide +kernel : P_Ca_find.all (zchk m_Ca_find.1.cls m_Ca_find.2.1) = true)

def P_Ca_isLate : List zEn := [
  (0, .iload_n 2, 1, 0, 0, 0, 0, [], none, []),
  (1, .aload_n 0, 1, 0, 0, 0, 0, [], none, []),
  (2, .getfield 22, 3, 0, 4, 0, 0, [], none, [380]),
  (5, .iload_n 1, 1, 0, 0, 0, 0, [], none, []),
  (6, .iaload, 1, 0, 0, 0, 0, [], none, []),
  (7, .aload_n 0, 1, 0, 0, 0, 0, [], none, []),
  (8, .getfield 9, 3, 0, 1, 0, 0, [], none, [375]),
  (11, .iadd, 1, 0, 0, 0, 0, [], none, []),
  (12, .if_icmp .le 7, 3, 19, 0, 0, 0, [], none, []),
  (15, .iconst 1, 1, 0, 0, 1, 0, [], none, []),
  (16, .goto 4, 3, 20, 0, 0, 0, [], none, []),
  (19, .iconst 0, 1, 0, 0, 0, 0, [], none, []),
  (20, .ireturn, 1, 0, 0, 0, 0, [], none, [])]
theorem k_Ca_isLate : zOK m_Ca_isLate P_Ca_isLate := (by decide +kernel : P_Ca_isLate.all (zchk m_Ca_isLate.1.cls m_Ca_isLate.2.1) = true)

def P_Ca_isBetween : List zEn := [
  (0, .aload_n 0, 1, 0, 0, 0, 0, [], none, []),
  (1, .getfield 19, 3, 0, 3, 0, 0, [], none, [379]),
  (4, .iload_n 1, 1, 0, 0, 0, 0, [], none, []),
  (5, .iaload, 1, 0, 0, 0, 0, [], none, []),
  (6, .iload_n 2, 1, 0, 0, 0, 0, [], none, []),
  (7, .if_icmp .ne 17, 3, 24, 0, 0, 0, [], none, []),
  (10, .aload_n 0, 1, 0, 0, 0, 0, [], none, []),
  (11, .getfield 15, 3, 0, 2, 0, 0, [], none, [377]),
  (14, .iload_n 1, 1, 0, 0, 0, 0, [], none, []),
  (15, .iaload, 1, 0, 0, 0, 0, [], none, []),
  (16, .iload_n 3, 1, 0, 0, 0, 0, [], none, []),
  (17, .if_icmp .ne 7, 3, 24, 0, 0, 0, [], none, []),
  (20, .iconst 1, 1, 0, 0, 1, 0, [], none, []),
  (21, .goto 4, 3, 25, 0, 0, 0, [], none, []),
  (24, .iconst 0, 1, 0, 0, 0, 0, [], none, []),
  (25, .ireturn, 1, 0, 0, 0, 0, [], none, [])]
theorem k_Ca_isBetween : zOK m_Ca_isBetween P_Ca_isBetween := (by decide +kernel : P_Ca_isBetween.all (zchk m_Ca_isBetween.1.cls m_Ca_isBetween.2.1) = true)

def P_Ca_remove : List zEn := [
  (0, .aload_n 0, 1, 0, 0, 0, 0, [], none, []),
  (1, .dup, 1, 0, 0, 0, 0, [], none, []),
  (2, .getfield 25, 3, 0, 0, 0, 0, [], none, [373]),
  (5, .iconst 1, 1, 0, 0, 1, 0, [], none, []),
  (6, .isub, 1, 0, 0, 0, 0, [], none, []),
  (7, .putfield 25, 3, 0, 0, 0, 0, [], none, [373]),
  (10, .iload_n 1, 1, 0, 0, 0, 0, [], none, []),
  (11, .istore_n 2, 1, 0, 0, 0, 0, [], none, []),
  (12, .iload_n 2, 1, 0, 0, 0, 0, [], none, []),
  (13, .aload_n 0, 1, 0, 0, 0, 0, [], none, []),
  (14, .getfield 25, 3, 0, 0, 0, 0, [], none, [373]),
  (17, .if_icmp .ge 51, 3, 68, 0, 0, 0, [], none, []),
  (20, .aload_n 0, 1, 0, 0, 0, 0, [], none, []),
  (21, .getfield 19, 3, 0, 3, 0, 0, [], none, [379]),
  (24, .iload_n 2, 1, 0, 0, 0, 0, [], none, []),
  (25, .aload_n 0, 1, 0, 0, 0, 0, [], none, []),
  (26, .getfield 19, 3, 0, 3, 0, 0, [], none, [379]),
  (29, .iload_n 2, 1, 0, 0, 0, 0, [], none, []),
  (30, .iconst 1, 1, 0, 0, 1, 0, [], none, []),
  (31, .iadd, 1, 0, 0, 0, 0, [], none, []),
  (32, .iaload, 1, 0, 0, 0, 0, [], none, []),
  (33, .iastore, 1, 0, 0, 0, 0, [], none, []),
  (34, .aload_n 0, 1, 0, 0, 0, 0, [], none, []),
  (35, .getfield 15, 3, 0, 2, 0, 0, [], none, [377]),
  (38, .iload_n 2, 1, 0, 0, 0, 0, [], none, []),
  (39, .aload_n 0, 1, 0, 0, 0, 0, [], none, []),
  (40, .getfield 15, 3, 0, 2, 0, 0, [], none, [377]),
  (43, .iload_n 2, 1, 0, 0, 0, 0, [], none, []),
  (44, .iconst 1, 1, 0, 0, 1, 0, [], none, []),
  (45, .iadd, 1, 0, 0, 0, 0, [], none, []),
  (46, .iaload, 1, 0, 0, 0, 0, [], none, []),
  (47, .iastore, 1, 0, 0, 0, 0, [], none, []),
  (48, .aload_n 0, 1, 0, 0, 0, 0, [], none, []),
  (49, .getfield 22, 3, 0, 4, 0, 0, [], none, [380]),
  (52, .iload_n 2, 1, 0, 0, 0, 0, [], none, []),
  (53, .aload_n 0, 1, 0, 0, 0, 0, [], none, []),
  (54, .getfield 22, 3, 0, 4, 0, 0, [], none, [380]),
  (57, .iload_n 2, 1, 0, 0, 0, 0, [], none, []),
  (58, .iconst 1, 1, 0, 0, 1, 0, [], none, []),
  (59, .iadd, 1, 0, 0, 0, 0, [], none, []),
  (60, .iaload, 1, 0, 0, 0, 0, [], none, []),
  (61, .iastore, 1, 0, 0, 0, 0, [], none, []),
  (62, .iinc 2 1, 3, 0, 0, 1, 0, [], none, []),
  (65, .goto (-53), 3, 12, 0, 0, 0, [], none, []),
  (68, .return_, 1, 0, 0, 0, 0, [], none, [])]
theorem k_Ca_remove : zOK m_Ca_remove P_Ca_remove := (by decide +kernel : P_Ca_remove.all (zchk m_Ca_remove.1.cls m_Ca_remove.2.1) = true)

def P_Ro_isTongue : List zEn := [
  (0, .iload_n 0, 1, 0, 0, 0, 0, [], none, []),
  (1, .ifCond .lt 13, 3, 14, 0, 0, 0, [], none, []),
  (4, .iload_n 0, 1, 0, 0, 0, 0, [], none, []),
  (5, .bipush 8, 2, 0, 0, 8, 0, [], none, []),
  (7, .if_icmp .ge 7, 3, 14, 0, 0, 0, [], none, []),
  (10, .iconst 1, 1, 0, 0, 1, 0, [], none, []),
  (11, .goto 4, 3, 15, 0, 0, 0, [], none, []),
  (14, .iconst 0, 1, 0, 0, 0, 0, [], none, []),
  (15, .ireturn, 1, 0, 0, 0, 0, [], none, [])]
theorem k_Ro_isTongue : zOK m_Ro_isTongue P_Ro_isTongue := (by decide +kernel : P_Ro_isTongue.all (zchk m_Ro_isTongue.1.cls m_Ro_isTongue.2.1) = true)

def P_Ro_isStateAsTold : List zEn := [
  (0, .iload_n 0, 1, 0, 0, 0, 0, [], none, []),
  (1, .ifCond .lt 20, 3, 21, 0, 0, 0, [], none, []),
  (4, .iload_n 0, 1, 0, 0, 0, 0, [], none, []),
  (5, .bipush 99, 2, 0, 0, 99, 0, [], none, []),
  (7, .if_icmp .gt 14, 3, 21, 0, 0, 0, [], none, []),
  (10, .iload_n 1, 1, 0, 0, 0, 0, [], none, []),
  (11, .invokestatic 35, 3, 0, 1, 0, 0, [], some m_Ro_isTongue, [421, 422, 67, 423]),
  (14, .ifCond .eq 7, 3, 21, 0, 0, 0, [], none, []),
  (17, .iconst 1, 1, 0, 0, 1, 0, [], none, []),
  (18, .goto 4, 3, 22, 0, 0, 0, [], none, []),
  (21, .iconst 0, 1, 0, 0, 0, 0, [], none, []),
  (22, .ireturn, 1, 0, 0, 0, 0, [], none, [])]
theorem k_Ro_isStateAsTold : zOK m_Ro_isStateAsTold P_Ro_isStateAsTold := (by decide +kernel : P_Ro_isStateAsTold.all (zchk m_Ro_isStateAsTold.1.cls m_Ro_isStateAsTold.2.1) = true)

def P_Ro_isPersonAsTold : List zEn := [
  (0, .iload_n 0, 1, 0, 0, 0, 0, [], none, []),
  (1, .ifCond .lt 33, 3, 34, 0, 0, 0, [], none, []),
  (4, .iload_n 0, 1, 0, 0, 0, 0, [], none, []),
  (5, .iconst 5, 1, 0, 0, 5, 0, [], none, []),
  (6, .if_icmp .gt 28, 3, 34, 0, 0, 0, [], none, []),
  (9, .iload_n 1, 1, 0, 0, 0, 0, [], none, []),
  (10, .ifCond .lt 24, 3, 34, 0, 0, 0, [], none, []),
  (13, .iload_n 1, 1, 0, 0, 0, 0, [], none, []),
  (14, .bipush 9, 2, 0, 0, 9, 0, [], none, []),
  (16, .if_icmp .gt 18, 3, 34, 0, 0, 0, [], none, []),
  (19, .iload_n 2, 1, 0, 0, 0, 0, [], none, []),
  (20, .ifCond .lt 14, 3, 34, 0, 0, 0, [], none, []),
  (23, .iload_n 2, 1, 0, 0, 0, 0, [], none, []),
  (24, .sipush 9999, 3, 0, 0, 9999, 0, [], none, []),
  (27, .if_icmp .gt 7, 3, 34, 0, 0, 0, [], none, []),
  (30, .iconst 1, 1, 0, 0, 1, 0, [], none, []),
  (31, .goto 4, 3, 35, 0, 0, 0, [], none, []),
  (34, .iconst 0, 1, 0, 0, 0, 0, [], none, []),
  (35, .ireturn, 1, 0, 0, 0, 0, [], none, [])]
theorem k_Ro_isPersonAsTold : zOK m_Ro_isPersonAsTold P_Ro_isPersonAsTold := (by decide +kernel : P_Ro_isPersonAsTold.all (zchk m_Ro_isPersonAsTold.1.cls m_Ro_isPersonAsTold.2.1) = true)

def P_Ro_isOfAnother : List zEn := [
  (0, .iload_n 0, 1, 0, 0, 0, 0, [], none, []),
  (1, .iconst 3, 1, 0, 0, 3, 0, [], none, []),
  (2, .if_icmp .eq 8, 3, 10, 0, 0, 0, [], none, []),
  (5, .iload_n 0, 1, 0, 0, 0, 0, [], none, []),
  (6, .iconst 4, 1, 0, 0, 4, 0, [], none, []),
  (7, .if_icmp .ne 7, 3, 14, 0, 0, 0, [], none, []),
  (10, .iconst 1, 1, 0, 0, 1, 0, [], none, []),
  (11, .goto 4, 3, 15, 0, 0, 0, [], none, []),
  (14, .iconst 0, 1, 0, 0, 0, 0, [], none, []),
  (15, .ireturn, 1, 0, 0, 0, 0, [], none, [])]
theorem k_Ro_isOfAnother : zOK m_Ro_isOfAnother P_Ro_isOfAnother := (by decide +kernel : P_Ro_isOfAnother.all (zchk m_Ro_isOfAnother.1.cls m_Ro_isOfAnother.2.1) = true)

def P_Ro_hasState : List zEn := [
  (0, .iload_n 1, 1, 0, 0, 0, 0, [], none, []),
  (1, .ifCond .lt 15, 3, 16, 0, 0, 0, [], none, []),
  (4, .iload_n 1, 1, 0, 0, 0, 0, [], none, []),
  (5, .aload_n 0, 1, 0, 0, 0, 0, [], none, []),
  (6, .getfield 39, 3, 3, 0, 0, 0, [], none, [102]),
  (9, .if_icmp .ge 7, 3, 16, 0, 0, 0, [], none, []),
  (12, .iconst 1, 1, 0, 0, 1, 0, [], none, []),
  (13, .goto 4, 3, 17, 0, 0, 0, [], none, []),
  (16, .iconst 0, 1, 0, 0, 0, 0, [], none, []),
  (17, .ireturn, 1, 0, 0, 0, 0, [], none, [])]
theorem k_Ro_hasState : zOK m_Ro_hasState P_Ro_hasState := (by decide +kernel : P_Ro_hasState.all (zchk m_Ro_hasState.1.cls m_Ro_hasState.2.1) = true)

def P_Ro_hasPerson : List zEn := [
  (0, .iload_n 1, 1, 0, 0, 0, 0, [], none, []),
  (1, .ifCond .lt 15, 3, 16, 0, 0, 0, [], none, []),
  (4, .iload_n 1, 1, 0, 0, 0, 0, [], none, []),
  (5, .aload_n 0, 1, 0, 0, 0, 0, [], none, []),
  (6, .getfield 43, 3, 3, 1, 0, 0, [], none, [105]),
  (9, .if_icmp .ge 7, 3, 16, 0, 0, 0, [], none, []),
  (12, .iconst 1, 1, 0, 0, 1, 0, [], none, []),
  (13, .goto 4, 3, 17, 0, 0, 0, [], none, []),
  (16, .iconst 0, 1, 0, 0, 0, 0, [], none, []),
  (17, .ireturn, 1, 0, 0, 0, 0, [], none, [])]
theorem k_Ro_hasPerson : zOK m_Ro_hasPerson P_Ro_hasPerson := (by decide +kernel : P_Ro_hasPerson.all (zchk m_Ro_hasPerson.1.cls m_Ro_hasPerson.2.1) = true)

def P_Ro_canBeOf : List zEn := [
  (0, .aload_n 0, 1, 0, 0, 0, 0, [], none, []),
  (1, .iload_n 2, 1, 0, 0, 0, 0, [], none, []),
  (2, .iconst 0, 1, 0, 0, 0, 0, [], none, []),
  (3, .invokevirtual 46, 3, 3, 2, 0, 0, [], some m_Ro_isOfKind, [447, 449, 0, 67, 450]),
  (6, .ifCond .ne 17, 3, 23, 0, 0, 0, [], none, []),
  (9, .iload_n 1, 1, 0, 0, 0, 0, [], none, []),
  (10, .iconst 3, 1, 0, 0, 3, 0, [], none, []),
  (11, .if_icmp .ne 16, 3, 27, 0, 0, 0, [], none, []),
  (14, .aload_n 0, 1, 0, 0, 0, 0, [], none, []),
  (15, .iload_n 2, 1, 0, 0, 0, 0, [], none, []),
  (16, .iconst 2, 1, 0, 0, 2, 0, [], none, []),
  (17, .invokevirtual 46, 3, 3, 2, 0, 0, [], some m_Ro_isOfKind, [447, 449, 0, 67, 450]),
  (20, .ifCond .eq 7, 3, 27, 0, 0, 0, [], none, []),
  (23, .iconst 1, 1, 0, 0, 1, 0, [], none, []),
  (24, .goto 4, 3, 28, 0, 0, 0, [], none, []),
  (27, .iconst 0, 1, 0, 0, 0, 0, [], none, []),
  (28, .ireturn, 1, 0, 0, 0, 0, [], none, [])]
theorem k_Ro_canBeOf : zOK m_Ro_canBeOf P_Ro_canBeOf := (by decide +kernel : P_Ro_canBeOf.all (zchk m_Ro_canBeOf.1.cls m_Ro_canBeOf.2.1) = true)

def P_Ro_isSetOfPersons : List zEn := [
  (0, .iload_n 1, 1, 0, 0, 0, 0, [], none, []),
  (1, .aload_n 0, 1, 0, 0, 0, 0, [], none, []),
  (2, .getfield 43, 3, 3, 1, 0, 0, [], none, [105]),
  (5, .iushr, 1, 0, 0, 0, 0, [], none, []),
  (6, .ifCond .ne 7, 3, 13, 0, 0, 0, [], none, []),
  (9, .iconst 1, 1, 0, 0, 1, 0, [], none, []),
  (10, .goto 4, 3, 14, 0, 0, 0, [], none, []),
  (13, .iconst 0, 1, 0, 0, 0, 0, [], none, []),
  (14, .ireturn, 1, 0, 0, 0, 0, [], none, [])]
theorem k_Ro_isSetOfPersons : zOK m_Ro_isSetOfPersons P_Ro_isSetOfPersons := (by decide +kernel : P_Ro_isSetOfPersons.all (zchk m_Ro_isSetOfPersons.1.cls m_Ro_isSetOfPersons.2.1) = true)

def P_Ro_addState : List zEn := [
  (0, .aload_n 0, 1, 0, 0, 0, 0, [], none, []),
  (1, .getfield 23, 3, 3, 5, 0, 0, [], none, [115]),
  (4, .aload_n 0, 1, 0, 0, 0, 0, [], none, []),
  (5, .getfield 39, 3, 3, 0, 0, 0, [], none, [102]),
  (8, .iload_n 1, 1, 0, 0, 0, 0, [], none, []),
  (9, .iastore, 1, 0, 0, 0, 0, [], none, []),
  (10, .aload_n 0, 1, 0, 0, 0, 0, [], none, []),
  (11, .getfield 26, 3, 3, 6, 0, 0, [], none, [116]),
  (14, .aload_n 0, 1, 0, 0, 0, 0, [], none, []),
  (15, .getfield 39, 3, 3, 0, 0, 0, [], none, [102]),
  (18, .iload_n 2, 1, 0, 0, 0, 0, [], none, []),
  (19, .iastore, 1, 0, 0, 0, 0, [], none, []),
  (20, .aload_n 0, 1, 0, 0, 0, 0, [], none, []),
  (21, .dup, 1, 0, 0, 0, 0, [], none, []),
  (22, .getfield 39, 3, 3, 0, 0, 0, [], none, [102]),
  (25, .iconst 1, 1, 0, 0, 1, 0, [], none, []),
  (26, .iadd, 1, 0, 0, 0, 0, [], none, []),
  (27, .putfield 39, 3, 3, 0, 0, 0, [], none, [102]),
  (30, .aload_n 0, 1, 0, 0, 0, 0, [], none, []),
  (31, .getfield 39, 3, 3, 0, 0, 0, [], none, [102]),
  (34, .iconst 1, 1, 0, 0, 1, 0, [], none, []),
  (35, .isub, 1, 0, 0, 0, 0, [], none, []),
  (36, .ireturn, 1, 0, 0, 0, 0, [], none, [])]
theorem k_Ro_addState : zOK m_Ro_addState P_Ro_addState := (by decide +kernel : P_Ro_addState.all (zchk m_Ro_addState.1.cls m_Ro_addState.2.1) = true)

def P_Ro_addPerson : List zEn := [
  (0, .aload_n 0, 1, 0, 0, 0, 0, [], none, []),
  (1, .getfield 43, 3, 3, 1, 0, 0, [], none, [105]),
  (4, .istore 6, 2, 0, 0, 0, 0, [], none, []),
  (6, .aload_n 0, 1, 0, 0, 0, 0, [], none, []),
  (7, .dup, 1, 0, 0, 0, 0, [], none, []),
  (8, .getfield 43, 3, 3, 1, 0, 0, [], none, [105]),
  (11, .iconst 1, 1, 0, 0, 1, 0, [], none, []),
  (12, .iadd, 1, 0, 0, 0, 0, [], none, []),
  (13, .putfield 43, 3, 3, 1, 0, 0, [], none, [105]),
  (16, .aload_n 0, 1, 0, 0, 0, 0, [], none, []),
  (17, .getfield 20, 3, 3, 4, 0, 0, [], none, [111]),
  (20, .iload 6, 2, 0, 0, 0, 0, [], none, []),
  (22, .aaload, 1, 0, 0, 0, 0, [], none, []),
  (23, .iconst 4, 1, 0, 0, 4, 0, [], none, []),
  (24, .iload_n 2, 1, 0, 0, 0, 0, [], none, []),
  (25, .iastore, 1, 0, 0, 0, 0, [], none, []),
  (26, .aload_n 0, 1, 0, 0, 0, 0, [], none, []),
  (27, .getfield 20, 3, 3, 4, 0, 0, [], none, [111]),
  (30, .iload 6, 2, 0, 0, 0, 0, [], none, []),
  (32, .aaload, 1, 0, 0, 0, 0, [], none, []),
  (33, .iconst 3, 1, 0, 0, 3, 0, [], none, []),
  (34, .iload 4, 2, 0, 0, 0, 0, [], none, []),
  (36, .iastore, 1, 0, 0, 0, 0, [], none, []),
  (37, .aload_n 0, 1, 0, 0, 0, 0, [], none, []),
  (38, .getfield 29, 3, 3, 7, 0, 0, [], none, [117]),
  (41, .iload 6, 2, 0, 0, 0, 0, [], none, []),
  (43, .iload_n 3, 1, 0, 0, 0, 0, [], none, []),
  (44, .iastore, 1, 0, 0, 0, 0, [], none, []),
  (45, .aload_n 0, 1, 0, 0, 0, 0, [], none, []),
  (46, .getfield 32, 3, 3, 8, 0, 0, [], none, [118]),
  (49, .iload 6, 2, 0, 0, 0, 0, [], none, []),
  (51, .iconst 0, 1, 0, 0, 0, 0, [], none, []),
  (52, .iastore, 1, 0, 0, 0, 0, [], none, []),
  (53, .aload_n 0, 1, 0, 0, 0, 0, [], none, []),
  (54, .getfield 15, 3, 3, 3, 0, 0, [], none, [109]),
  (57, .iload 6, 2, 0, 0, 0, 0, [], none, []),
  (59, .iload 5, 2, 0, 0, 0, 0, [], none, []),
  (61, .iastore, 1, 0, 0, 0, 0, [], none, []),
  (62, .aload_n 0, 1, 0, 0, 0, 0, [], none, []),
  (63, .getfield 11, 3, 3, 2, 0, 0, [], none, [106]),
  (66, .iload 6, 2, 0, 0, 0, 0, [], none, []),
  (68, .iconst 1, 1, 0, 0, 1, 0, [], none, []),
  (69, .iastore, 1, 0, 0, 0, 0, [], none, []),
  (70, .aload_n 0, 1, 0, 0, 0, 0, [], none, []),
  (71, .iload 6, 2, 0, 0, 0, 0, [], none, []),
  (73, .iload_n 1, 1, 0, 0, 0, 0, [], none, []),
  (74, .invokevirtual 50, 3, 3, 2, 0, 0, [], some m_Ro_setHome, [458, 460, 1, 67, 461]),
  (77, .aload_n 0, 1, 0, 0, 0, 0, [], none, []),
  (78, .iload 6, 2, 0, 0, 0, 0, [], none, []),
  (80, .invokevirtual 54, 3, 3, 1, 0, 0, [], some m_Ro_refreshFields, [462, 464, 2, 67, 465]),
  (83, .iload 6, 2, 0, 0, 0, 0, [], none, []),
  (85, .ireturn, 1, 0, 0, 0, 0, [], none, [])]
theorem k_Ro_addPerson : zOK m_Ro_addPerson P_Ro_addPerson := (by decide +kernel : P_Ro_addPerson.all (zchk m_Ro_addPerson.1.cls m_Ro_addPerson.2.1) = true)

def P_Ro_handPaper : List zEn := [
  (0, .aload_n 0, 1, 0, 0, 0, 0, [], none, []),
  (1, .getfield 32, 3, 3, 8, 0, 0, [], none, [118]),
  (4, .iload_n 1, 1, 0, 0, 0, 0, [], none, []),
  (5, .iaload, 1, 0, 0, 0, 0, [], none, []),
  (6, .istore_n 3, 1, 0, 0, 0, 0, [], none, []),
  (7, .aload_n 0, 1, 0, 0, 0, 0, [], none, []),
  (8, .getfield 32, 3, 3, 8, 0, 0, [], none, [118]),
  (11, .iload_n 1, 1, 0, 0, 0, 0, [], none, []),
  (12, .iload_n 2, 1, 0, 0, 0, 0, [], none, []),
  (13, .iastore, 1, 0, 0, 0, 0, [], none, []),
  (14, .iload_n 1, 1, 0, 0, 0, 0, [], none, []),
  (15, .istore 4, 2, 0, 0, 0, 0, [], none, []),
  (17, .iload 4, 2, 0, 0, 0, 0, [], none, []),
  (19, .aload_n 0, 1, 0, 0, 0, 0, [], none, []),
  (20, .getfield 43, 3, 3, 1, 0, 0, [], none, [105]),
  (23, .if_icmp .ge 15, 3, 38, 0, 0, 0, [], none, []),
  (26, .aload_n 0, 1, 0, 0, 0, 0, [], none, []),
  (27, .iload 4, 2, 0, 0, 0, 0, [], none, []),
  (29, .invokevirtual 54, 3, 3, 1, 0, 0, [], some m_Ro_refreshFields, [462, 464, 2, 67, 465]),
  (32, .iinc 4 1, 3, 0, 0, 1, 0, [], none, []),
  (35, .goto (-18), 3, 17, 0, 0, 0, [], none, []),
  (38, .iload_n 3, 1, 0, 0, 0, 0, [], none, []),
  (39, .ireturn, 1, 0, 0, 0, 0, [], none, [])]
theorem k_Ro_handPaper : zOK m_Ro_handPaper P_Ro_handPaper := (by decide +kernel : P_Ro_handPaper.all (zchk m_Ro_handPaper.1.cls m_Ro_handPaper.2.1) = true)

def P_Ro_moveHome : List zEn := [
  (0, .iconst 0, 1, 0, 0, 0, 0, [], none, []),
  (1, .istore 4, 2, 0, 0, 0, 0, [], none, []),
  (3, .iload 4, 2, 0, 0, 0, 0, [], none, []),
  (5, .aload_n 0, 1, 0, 0, 0, 0, [], none, []),
  (6, .getfield 43, 3, 3, 1, 0, 0, [], none, [105]),
  (9, .if_icmp .ge 38, 3, 47, 0, 0, 0, [], none, []),
  (12, .iload_n 3, 1, 0, 0, 0, 0, [], none, []),
  (13, .iload 4, 2, 0, 0, 0, 0, [], none, []),
  (15, .invokestatic 58, 3, 0, 2, 0, 0, [], some m_Ro_isIn, [515, 516, 67, 517]),
  (18, .ifCond .eq 23, 3, 41, 0, 0, 0, [], none, []),
  (21, .aload_n 0, 1, 0, 0, 0, 0, [], none, []),
  (22, .getfield 20, 3, 3, 4, 0, 0, [], none, [111]),
  (25, .iload 4, 2, 0, 0, 0, 0, [], none, []),
  (27, .aaload, 1, 0, 0, 0, 0, [], none, []),
  (28, .iconst 5, 1, 0, 0, 5, 0, [], none, []),
  (29, .iaload, 1, 0, 0, 0, 0, [], none, []),
  (30, .iload_n 1, 1, 0, 0, 0, 0, [], none, []),
  (31, .if_icmp .ne 10, 3, 41, 0, 0, 0, [], none, []),
  (34, .aload_n 0, 1, 0, 0, 0, 0, [], none, []),
  (35, .iload 4, 2, 0, 0, 0, 0, [], none, []),
  (37, .iload_n 2, 1, 0, 0, 0, 0, [], none, []),
  (38, .invokevirtual 50, 3, 3, 2, 0, 0, [], some m_Ro_setHome, [458, 460, 1, 67, 461]),
  (41, .iinc 4 1, 3, 0, 0, 1, 0, [], none, []),
  (44, .goto (-41), 3, 3, 0, 0, 0, [], none, []),
  (47, .return_, 1, 0, 0, 0, 0, [], none, [])]
theorem k_Ro_moveHome : zOK m_Ro_moveHome P_Ro_moveHome := (by decide +kernel : P_Ro_moveHome.all (zchk m_Ro_moveHome.1.cls m_Ro_moveHome.2.1) = true)

def P_Ro_setHome : List zEn := [
  (0, .aload_n 0, 1, 0, 0, 0, 0, [], none, []),
  (1, .getfield 20, 3, 3, 4, 0, 0, [], none, [111]),
  (4, .iload_n 1, 1, 0, 0, 0, 0, [], none, []),
  (5, .aaload, 1, 0, 0, 0, 0, [], none, []),
  (6, .iconst 5, 1, 0, 0, 5, 0, [], none, []),
  (7, .iload_n 2, 1, 0, 0, 0, 0, [], none, []),
  (8, .iastore, 1, 0, 0, 0, 0, [], none, []),
  (9, .aload_n 0, 1, 0, 0, 0, 0, [], none, []),
  (10, .getfield 20, 3, 3, 4, 0, 0, [], none, [111]),
  (13, .iload_n 1, 1, 0, 0, 0, 0, [], none, []),
  (14, .aaload, 1, 0, 0, 0, 0, [], none, []),
  (15, .iconst 2, 1, 0, 0, 2, 0, [], none, []),
  (16, .aload_n 0, 1, 0, 0, 0, 0, [], none, []),
  (17, .getfield 23, 3, 3, 5, 0, 0, [], none, [115]),
  (20, .iload_n 2, 1, 0, 0, 0, 0, [], none, []),
  (21, .iaload, 1, 0, 0, 0, 0, [], none, []),
  (22, .iastore, 1, 0, 0, 0, 0, [], none, []),
  (23, .aload_n 0, 1, 0, 0, 0, 0, [], none, []),
  (24, .getfield 20, 3, 3, 4, 0, 0, [], none, [111]),
  (27, .iload_n 1, 1, 0, 0, 0, 0, [], none, []),
  (28, .aaload, 1, 0, 0, 0, 0, [], none, []),
  (29, .bipush 6, 2, 0, 0, 6, 0, [], none, []),
  (31, .aload_n 0, 1, 0, 0, 0, 0, [], none, []),
  (32, .getfield 26, 3, 3, 6, 0, 0, [], none, [116]),
  (35, .iload_n 2, 1, 0, 0, 0, 0, [], none, []),
  (36, .iaload, 1, 0, 0, 0, 0, [], none, []),
  (37, .iastore, 1, 0, 0, 0, 0, [], none, []),
  (38, .return_, 1, 0, 0, 0, 0, [], none, [])]
theorem k_Ro_setHome : zOK m_Ro_setHome P_Ro_setHome := (by decide +kernel : P_Ro_setHome.all (zchk m_Ro_setHome.1.cls m_Ro_setHome.2.1) = true)

def P_Ro_refreshFields : List zEn := [
  (0, .aload_n 0, 1, 0, 0, 0, 0, [], none, []),
  (1, .getfield 20, 3, 3, 4, 0, 0, [], none, [111]),
  (4, .iload_n 1, 1, 0, 0, 0, 0, [], none, []),
  (5, .aaload, 1, 0, 0, 0, 0, [], none, []),
  (6, .iconst 0, 1, 0, 0, 0, 0, [], none, []),
  (7, .aload_n 0, 1, 0, 0, 0, 0, [], none, []),
  (8, .iload_n 1, 1, 0, 0, 0, 0, [], none, []),
  (9, .invokevirtual 61, 3, 3, 1, 0, 0, [], some m_Ro_rankOf, [466, 468, 3, 67, 469]),
  (12, .iastore, 1, 0, 0, 0, 0, [], none, []),
  (13, .aload_n 0, 1, 0, 0, 0, 0, [], none, []),
  (14, .getfield 20, 3, 3, 4, 0, 0, [], none, [111]),
  (17, .iload_n 1, 1, 0, 0, 0, 0, [], none, []),
  (18, .aaload, 1, 0, 0, 0, 0, [], none, []),
  (19, .iconst 1, 1, 0, 0, 1, 0, [], none, []),
  (20, .aload_n 0, 1, 0, 0, 0, 0, [], none, []),
  (21, .aload_n 0, 1, 0, 0, 0, 0, [], none, []),
  (22, .iload_n 1, 1, 0, 0, 0, 0, [], none, []),
  (23, .iconst 3, 1, 0, 0, 3, 0, [], none, []),
  (24, .invokevirtual 46, 3, 3, 2, 0, 0, [], some m_Ro_isOfKind, [447, 449, 0, 67, 450]),
  (27, .ifCond .eq 12, 3, 39, 0, 0, 0, [], none, []),
  (30, .aload_n 0, 1, 0, 0, 0, 0, [], none, []),
  (31, .getfield 15, 3, 3, 3, 0, 0, [], none, [109]),
  (34, .iload_n 1, 1, 0, 0, 0, 0, [], none, []),
  (35, .iaload, 1, 0, 0, 0, 0, [], none, []),
  (36, .goto 4, 3, 40, 0, 0, 0, [], none, []),
  (39, .iload_n 1, 1, 0, 0, 0, 0, [], none, []),
  (40, .invokevirtual 65, 3, 3, 1, 0, 0, [], some m_Ro_paperOf, [477, 479, 5, 67, 480]),
  (43, .iastore, 1, 0, 0, 0, 0, [], none, []),
  (44, .return_, 1, 0, 0, 0, 0, [], none, [])]
theorem k_Ro_refreshFields : zOK m_Ro_refreshFields P_Ro_refreshFields := (by decide +kernel : P_Ro_refreshFields.all (zchk m_Ro_refreshFields.1.cls m_Ro_refreshFields.2.1) = true)

def P_Ro_isOfKind : List zEn := [
  (0, .aload_n 0, 1, 0, 0, 0, 0, [], none, []),
  (1, .getfield 20, 3, 3, 4, 0, 0, [], none, [111]),
  (4, .iload_n 1, 1, 0, 0, 0, 0, [], none, []),
  (5, .aaload, 1, 0, 0, 0, 0, [], none, []),
  (6, .iconst 4, 1, 0, 0, 4, 0, [], none, []),
  (7, .iaload, 1, 0, 0, 0, 0, [], none, []),
  (8, .iload_n 2, 1, 0, 0, 0, 0, [], none, []),
  (9, .if_icmp .ne 7, 3, 16, 0, 0, 0, [], none, []),
  (12, .iconst 1, 1, 0, 0, 1, 0, [], none, []),
  (13, .goto 4, 3, 17, 0, 0, 0, [], none, []),
  (16, .iconst 0, 1, 0, 0, 0, 0, [], none, []),
  (17, .ireturn, 1, 0, 0, 0, 0, [], none, [])]
theorem k_Ro_isOfKind : zOK m_Ro_isOfKind P_Ro_isOfKind := (by decide +kernel : P_Ro_isOfKind.all (zchk m_Ro_isOfKind.1.cls m_Ro_isOfKind.2.1) = true)

def P_Ro_isIn : List zEn := [
  (0, .iload_n 0, 1, 0, 0, 0, 0, [], none, []),
  (1, .iload_n 1, 1, 0, 0, 0, 0, [], none, []),
  (2, .iushr, 1, 0, 0, 0, 0, [], none, []),
  (3, .iconst 1, 1, 0, 0, 1, 0, [], none, []),
  (4, .iand, 1, 0, 0, 0, 0, [], none, []),
  (5, .iconst 1, 1, 0, 0, 1, 0, [], none, []),
  (6, .if_icmp .ne 7, 3, 13, 0, 0, 0, [], none, []),
  (9, .iconst 1, 1, 0, 0, 1, 0, [], none, []),
  (10, .goto 4, 3, 14, 0, 0, 0, [], none, []),
  (13, .iconst 0, 1, 0, 0, 0, 0, [], none, []),
  (14, .ireturn, 1, 0, 0, 0, 0, [], none, [])]
theorem k_Ro_isIn : zOK m_Ro_isIn P_Ro_isIn := (by decide +kernel : P_Ro_isIn.all (zchk m_Ro_isIn.1.cls m_Ro_isIn.2.1) = true)

def P_Ro_areAllPresent : List zEn := [
  (0, .iconst 0, 1, 0, 0, 0, 0, [], none, []),
  (1, .istore_n 2, 1, 0, 0, 0, 0, [], none, []),
  (2, .iload_n 2, 1, 0, 0, 0, 0, [], none, []),
  (3, .aload_n 0, 1, 0, 0, 0, 0, [], none, []),
  (4, .getfield 43, 3, 3, 1, 0, 0, [], none, [105]),
  (7, .if_icmp .ge 28, 3, 35, 0, 0, 0, [], none, []),
  (10, .iload_n 1, 1, 0, 0, 0, 0, [], none, []),
  (11, .iload_n 2, 1, 0, 0, 0, 0, [], none, []),
  (12, .invokestatic 58, 3, 0, 2, 0, 0, [], some m_Ro_isIn, [515, 516, 67, 517]),
  (15, .ifCond .eq 14, 3, 29, 0, 0, 0, [], none, []),
  (18, .aload_n 0, 1, 0, 0, 0, 0, [], none, []),
  (19, .getfield 11, 3, 3, 2, 0, 0, [], none, [106]),
  (22, .iload_n 2, 1, 0, 0, 0, 0, [], none, []),
  (23, .iaload, 1, 0, 0, 0, 0, [], none, []),
  (24, .ifCond .ne 5, 3, 29, 0, 0, 0, [], none, []),
  (27, .iconst 0, 1, 0, 0, 0, 0, [], none, []),
  (28, .ireturn, 1, 0, 0, 0, 0, [], none, []),
  (29, .iinc 2 1, 3, 0, 0, 1, 0, [], none, []),
  (32, .goto (-30), 3, 2, 0, 0, 0, [], none, []),
  (35, .iconst 1, 1, 0, 0, 1, 0, [], none, []),
  (36, .ireturn, 1, 0, 0, 0, 0, [], none, [])]
theorem k_Ro_areAllPresent : zOK m_Ro_areAllPresent P_Ro_areAllPresent := (by decide +kernel : P_Ro_areAllPresent.all (zchk m_Ro_areAllPresent.1.cls m_Ro_areAllPresent.2.1) = true)

def P_Ro_countPresent : List zEn := [
  (0, .iconst 0, 1, 0, 0, 0, 0, [], none, []),
  (1, .istore_n 1, 1, 0, 0, 0, 0, [], none, []),
  (2, .iconst 0, 1, 0, 0, 0, 0, [], none, []),
  (3, .istore_n 2, 1, 0, 0, 0, 0, [], none, []),
  (4, .iload_n 2, 1, 0, 0, 0, 0, [], none, []),
  (5, .aload_n 0, 1, 0, 0, 0, 0, [], none, []),
  (6, .getfield 43, 3, 3, 1, 0, 0, [], none, [105]),
  (9, .if_icmp .ge 18, 3, 27, 0, 0, 0, [], none, []),
  (12, .iload_n 1, 1, 0, 0, 0, 0, [], none, []),
  (13, .aload_n 0, 1, 0, 0, 0, 0, [], none, []),
  (14, .getfield 11, 3, 3, 2, 0, 0, [], none, [106]),
  (17, .iload_n 2, 1, 0, 0, 0, 0, [], none, []),
  (18, .iaload, 1, 0, 0, 0, 0, [], none, []),
  (19, .iadd, 1, 0, 0, 0, 0, [], none, []),
  (20, .istore_n 1, 1, 0, 0, 0, 0, [], none, []),
  (21, .iinc 2 1, 3, 0, 0, 1, 0, [], none, []),
  (24, .goto (-20), 3, 4, 0, 0, 0, [], none, []),
  (27, .iload_n 1, 1, 0, 0, 0, 0, [], none, []),
  (28, .ireturn, 1, 0, 0, 0, 0, [], none, [])]
theorem k_Ro_countPresent : zOK m_Ro_countPresent P_Ro_countPresent := (by decide +kernel : P_Ro_countPresent.all (zchk m_Ro_countPresent.1.cls m_Ro_countPresent.2.1) = true)

def P_Ro_rankOf : List zEn := [
  (0, .aload_n 0, 1, 0, 0, 0, 0, [], none, []),
  (1, .getfield 20, 3, 3, 4, 0, 0, [], none, [111]),
  (4, .iload_n 1, 1, 0, 0, 0, 0, [], none, []),
  (5, .aaload, 1, 0, 0, 0, 0, [], none, []),
  (6, .iconst 4, 1, 0, 0, 4, 0, [], none, []),
  (7, .iaload, 1, 0, 0, 0, 0, [], none, []),
  (8, .lookupswitch 57 #[(3, 28), (4, 39)], 28, 65, 0, 0, 0, [(3, 36), (4, 47)], none, []),
  (36, .aload_n 0, 1, 0, 0, 0, 0, [], none, []),
  (37, .aload_n 0, 1, 0, 0, 0, 0, [], none, []),
  (38, .getfield 15, 3, 3, 3, 0, 0, [], none, [109]),
  (41, .iload_n 1, 1, 0, 0, 0, 0, [], none, []),
  (42, .iaload, 1, 0, 0, 0, 0, [], none, []),
  (43, .invokevirtual 68, 3, 3, 1, 0, 0, [], some m_Ro_ownRankOf, [470, 472, 4, 67, 473]),
  (46, .ireturn, 1, 0, 0, 0, 0, [], none, []),
  (47, .aload_n 0, 1, 0, 0, 0, 0, [], none, []),
  (48, .aload_n 0, 1, 0, 0, 0, 0, [], none, []),
  (49, .getfield 15, 3, 3, 3, 0, 0, [], none, [109]),
  (52, .iload_n 1, 1, 0, 0, 0, 0, [], none, []),
  (53, .iaload, 1, 0, 0, 0, 0, [], none, []),
  (54, .invokevirtual 68, 3, 3, 1, 0, 0, [], some m_Ro_ownRankOf, [470, 472, 4, 67, 473]),
  (57, .iconst 1, 1, 0, 0, 1, 0, [], none, []),
  (58, .iadd, 1, 0, 0, 0, 0, [], none, []),
  (59, .bipush 9, 2, 0, 0, 9, 0, [], none, []),
  (61, .invokestatic 71, 3, 0, 2, 0, 0, [], some m_Jmath_min, [474, 475, 77, 476]),
  (64, .ireturn, 1, 0, 0, 0, 0, [], none, []),
  (65, .aload_n 0, 1, 0, 0, 0, 0, [], none, []),
  (66, .iload_n 1, 1, 0, 0, 0, 0, [], none, []),
  (67, .invokevirtual 68, 3, 3, 1, 0, 0, [], some m_Ro_ownRankOf, [470, 472, 4, 67, 473]),
  (70, .ireturn, 1, 0, 0, 0, 0, [], none, [])]
theorem k_Ro_rankOf : zOK m_Ro_rankOf P_Ro_rankOf := (by decide +kernel : P_Ro_rankOf.all (zchk m_Ro_rankOf.1.cls m_Ro_rankOf.2.1) = true)

def P_Ro_ownRankOf : List zEn := [
  (0, .aload_n 0, 1, 0, 0, 0, 0, [], none, []),
  (1, .iload_n 1, 1, 0, 0, 0, 0, [], none, []),
  (2, .iconst 0, 1, 0, 0, 0, 0, [], none, []),
  (3, .invokevirtual 46, 3, 3, 2, 0, 0, [], some m_Ro_isOfKind, [447, 449, 0, 67, 450]),
  (6, .ifCond .eq 17, 3, 23, 0, 0, 0, [], none, []),
  (9, .aload_n 0, 1, 0, 0, 0, 0, [], none, []),
  (10, .getfield 32, 3, 3, 8, 0, 0, [], none, [118]),
  (13, .iload_n 1, 1, 0, 0, 0, 0, [], none, []),
  (14, .iaload, 1, 0, 0, 0, 0, [], none, []),
  (15, .ifCond .ne 8, 3, 23, 0, 0, 0, [], none, []),
  (18, .bipush 9, 2, 0, 0, 9, 0, [], none, []),
  (20, .goto 9, 3, 29, 0, 0, 0, [], none, []),
  (23, .aload_n 0, 1, 0, 0, 0, 0, [], none, []),
  (24, .getfield 29, 3, 3, 7, 0, 0, [], none, [117]),
  (27, .iload_n 1, 1, 0, 0, 0, 0, [], none, []),
  (28, .iaload, 1, 0, 0, 0, 0, [], none, []),
  (29, .ireturn, 1, 0, 0, 0, 0, [], none, [])]
theorem k_Ro_ownRankOf : zOK m_Ro_ownRankOf P_Ro_ownRankOf := (by decide +kernel : P_Ro_ownRankOf.all (zchk m_Ro_ownRankOf.1.cls m_Ro_ownRankOf.2.1) = true)

def P_Ro_paperOf : List zEn := [
  (0, .aload_n 0, 1, 0, 0, 0, 0, [], none, []),
  (1, .getfield 32, 3, 3, 8, 0, 0, [], none, [118]),
  (4, .iload_n 1, 1, 0, 0, 0, 0, [], none, []),
  (5, .iaload, 1, 0, 0, 0, 0, [], none, []),
  (6, .ifCond .ne 8, 3, 14, 0, 0, 0, [], none, []),
  (9, .ldc 77, 2, 0, 0, 99999999, 0, [], none, [481]),
  (11, .goto 9, 3, 20, 0, 0, 0, [], none, []),
  (14, .aload_n 0, 1, 0, 0, 0, 0, [], none, []),
  (15, .getfield 32, 3, 3, 8, 0, 0, [], none, [118]),
  (18, .iload_n 1, 1, 0, 0, 0, 0, [], none, []),
  (19, .iaload, 1, 0, 0, 0, 0, [], none, []),
  (20, .ireturn, 1, 0, 0, 0, 0, [], none, [])]
theorem k_Ro_paperOf : zOK m_Ro_paperOf P_Ro_paperOf := (by decide +kernel : P_Ro_paperOf.all (zchk m_Ro_paperOf.1.cls m_Ro_paperOf.2.1) = true)

def P_Ro_eldestWithPaper : List zEn := [
  (0, .iconst (-1), 1, 0, 0, -1, 0, [], none, []),
  (1, .istore_n 1, 1, 0, 0, 0, 0, [], none, []),
  (2, .iconst 0, 1, 0, 0, 0, 0, [], none, []),
  (3, .istore_n 2, 1, 0, 0, 0, 0, [], none, []),
  (4, .iload_n 2, 1, 0, 0, 0, 0, [], none, []),
  (5, .aload_n 0, 1, 0, 0, 0, 0, [], none, []),
  (6, .getfield 43, 3, 3, 1, 0, 0, [], none, [105]),
  (9, .if_icmp .ge 33, 3, 42, 0, 0, 0, [], none, []),
  (12, .aload_n 0, 1, 0, 0, 0, 0, [], none, []),
  (13, .iload_n 2, 1, 0, 0, 0, 0, [], none, []),
  (14, .invokevirtual 78, 3, 3, 1, 0, 0, [], some m_Ro_canBeDean, [772, 774, 24, 67, 775]),
  (17, .ifCond .eq 19, 3, 36, 0, 0, 0, [], none, []),
  (20, .iload_n 1, 1, 0, 0, 0, 0, [], none, []),
  (21, .iconst (-1), 1, 0, 0, -1, 0, [], none, []),
  (22, .if_icmp .eq 12, 3, 34, 0, 0, 0, [], none, []),
  (25, .aload_n 0, 1, 0, 0, 0, 0, [], none, []),
  (26, .iload_n 2, 1, 0, 0, 0, 0, [], none, []),
  (27, .iload_n 1, 1, 0, 0, 0, 0, [], none, []),
  (28, .invokevirtual 81, 3, 3, 2, 0, 0, [], some m_Ro_isElder, [776, 778, 25, 67, 779]),
  (31, .ifCond .eq 5, 3, 36, 0, 0, 0, [], none, []),
  (34, .iload_n 2, 1, 0, 0, 0, 0, [], none, []),
  (35, .istore_n 1, 1, 0, 0, 0, 0, [], none, []),
  (36, .iinc 2 1, 3, 0, 0, 1, 0, [], none, []),
  (39, .goto (-35), 3, 4, 0, 0, 0, [], none, []),
  (42, .iload_n 1, 1, 0, 0, 0, 0, [], none, []),
  (43, .ireturn, 1, 0, 0, 0, 0, [], none, [])]
theorem k_Ro_eldestWithPaper : zOK m_Ro_eldestWithPaper P_Ro_eldestWithPaper := (by decide +kernel : P_Ro_eldestWithPaper.all (zchk m_Ro_eldestWithPaper.1.cls m_Ro_eldestWithPaper.2.1) = true)

def P_Ro_canBeDean : List zEn := [
  (0, .aload_n 0, 1, 0, 0, 0, 0, [], none, []),
  (1, .iload_n 1, 1, 0, 0, 0, 0, [], none, []),
  (2, .iconst 0, 1, 0, 0, 0, 0, [], none, []),
  (3, .invokevirtual 46, 3, 3, 2, 0, 0, [], some m_Ro_isOfKind, [447, 449, 0, 67, 450]),
  (6, .ifCond .ne 12, 3, 18, 0, 0, 0, [], none, []),
  (9, .aload_n 0, 1, 0, 0, 0, 0, [], none, []),
  (10, .iload_n 1, 1, 0, 0, 0, 0, [], none, []),
  (11, .iconst 5, 1, 0, 0, 5, 0, [], none, []),
  (12, .invokevirtual 46, 3, 3, 2, 0, 0, [], some m_Ro_isOfKind, [447, 449, 0, 67, 450]),
  (15, .ifCond .eq 7, 3, 22, 0, 0, 0, [], none, []),
  (18, .iconst 1, 1, 0, 0, 1, 0, [], none, []),
  (19, .goto 4, 3, 23, 0, 0, 0, [], none, []),
  (22, .iconst 0, 1, 0, 0, 0, 0, [], none, []),
  (23, .istore_n 2, 1, 0, 0, 0, 0, [], none, []),
  (24, .iload_n 2, 1, 0, 0, 0, 0, [], none, []),
  (25, .ifCond .eq 26, 3, 51, 0, 0, 0, [], none, []),
  (28, .aload_n 0, 1, 0, 0, 0, 0, [], none, []),
  (29, .getfield 11, 3, 3, 2, 0, 0, [], none, [106]),
  (32, .iload_n 1, 1, 0, 0, 0, 0, [], none, []),
  (33, .iaload, 1, 0, 0, 0, 0, [], none, []),
  (34, .iconst 1, 1, 0, 0, 1, 0, [], none, []),
  (35, .if_icmp .ne 16, 3, 51, 0, 0, 0, [], none, []),
  (38, .aload_n 0, 1, 0, 0, 0, 0, [], none, []),
  (39, .getfield 32, 3, 3, 8, 0, 0, [], none, [118]),
  (42, .iload_n 1, 1, 0, 0, 0, 0, [], none, []),
  (43, .iaload, 1, 0, 0, 0, 0, [], none, []),
  (44, .ifCond .eq 7, 3, 51, 0, 0, 0, [], none, []),
  (47, .iconst 1, 1, 0, 0, 1, 0, [], none, []),
  (48, .goto 4, 3, 52, 0, 0, 0, [], none, []),
  (51, .iconst 0, 1, 0, 0, 0, 0, [], none, []),
  (52, .ireturn, 1, 0, 0, 0, 0, [], none, [])]
theorem k_Ro_canBeDean : zOK m_Ro_canBeDean P_Ro_canBeDean := (by decide +kernel : P_Ro_canBeDean.all (zchk m_Ro_canBeDean.1.cls m_Ro_canBeDean.2.1) = true)

def P_Ro_isElder : List zEn := [
  (0, .aload_n 0, 1, 0, 0, 0, 0, [], none, []),
  (1, .getfield 20, 3, 3, 4, 0, 0, [], none, [111]),
  (4, .iload_n 1, 1, 0, 0, 0, 0, [], none, []),
  (5, .aaload, 1, 0, 0, 0, 0, [], none, []),
  (6, .iconst 3, 1, 0, 0, 3, 0, [], none, []),
  (7, .iaload, 1, 0, 0, 0, 0, [], none, []),
  (8, .istore_n 3, 1, 0, 0, 0, 0, [], none, []),
  (9, .aload_n 0, 1, 0, 0, 0, 0, [], none, []),
  (10, .getfield 20, 3, 3, 4, 0, 0, [], none, [111]),
  (13, .iload_n 2, 1, 0, 0, 0, 0, [], none, []),
  (14, .aaload, 1, 0, 0, 0, 0, [], none, []),
  (15, .iconst 3, 1, 0, 0, 3, 0, [], none, []),
  (16, .iaload, 1, 0, 0, 0, 0, [], none, []),
  (17, .istore 4, 2, 0, 0, 0, 0, [], none, []),
  (19, .iload_n 3, 1, 0, 0, 0, 0, [], none, []),
  (20, .iload 4, 2, 0, 0, 0, 0, [], none, []),
  (22, .if_icmp .lt 24, 3, 46, 0, 0, 0, [], none, []),
  (25, .iload_n 3, 1, 0, 0, 0, 0, [], none, []),
  (26, .iload 4, 2, 0, 0, 0, 0, [], none, []),
  (28, .if_icmp .ne 22, 3, 50, 0, 0, 0, [], none, []),
  (31, .aload_n 0, 1, 0, 0, 0, 0, [], none, []),
  (32, .getfield 32, 3, 3, 8, 0, 0, [], none, [118]),
  (35, .iload_n 1, 1, 0, 0, 0, 0, [], none, []),
  (36, .iaload, 1, 0, 0, 0, 0, [], none, []),
  (37, .aload_n 0, 1, 0, 0, 0, 0, [], none, []),
  (38, .getfield 32, 3, 3, 8, 0, 0, [], none, [118]),
  (41, .iload_n 2, 1, 0, 0, 0, 0, [], none, []),
  (42, .iaload, 1, 0, 0, 0, 0, [], none, []),
  (43, .if_icmp .ge 7, 3, 50, 0, 0, 0, [], none, []),
  (46, .iconst 1, 1, 0, 0, 1, 0, [], none, []),
  (47, .goto 4, 3, 51, 0, 0, 0, [], none, []),
  (50, .iconst 0, 1, 0, 0, 0, 0, [], none, []),
  (51, .ireturn, 1, 0, 0, 0, 0, [], none, [])]
theorem k_Ro_isElder : zOK m_Ro_isElder P_Ro_isElder := (by decide +kernel : P_Ro_isElder.all (zchk m_Ro_isElder.1.cls m_Ro_isElder.2.1) = true)

def P_Ru_isFor : List zEn := [
  (0, .iload_n 2, 1, 0, 0, 0, 0, [], none, []),
  (1, .aload_n 0, 1, 0, 0, 0, 0, [], none, []),
  (2, .getfield 26, 3, 4, 5, 0, 0, [], none, [183]),
  (5, .if_icmp .lt 31, 3, 36, 0, 0, 0, [], none, []),
  (8, .iload_n 2, 1, 0, 0, 0, 0, [], none, []),
  (9, .aload_n 0, 1, 0, 0, 0, 0, [], none, []),
  (10, .getfield 30, 3, 4, 6, 0, 0, [], none, [185]),
  (13, .if_icmp .ge 23, 3, 36, 0, 0, 0, [], none, []),
  (16, .aload_n 0, 1, 0, 0, 0, 0, [], none, []),
  (17, .getfield 33, 3, 4, 0, 0, 0, [], none, [172]),
  (20, .iconst (-1), 1, 0, 0, -1, 0, [], none, []),
  (21, .if_icmp .eq 11, 3, 32, 0, 0, 0, [], none, []),
  (24, .aload_n 0, 1, 0, 0, 0, 0, [], none, []),
  (25, .getfield 33, 3, 4, 0, 0, 0, [], none, [172]),
  (28, .iload_n 1, 1, 0, 0, 0, 0, [], none, []),
  (29, .if_icmp .ne 7, 3, 36, 0, 0, 0, [], none, []),
  (32, .iconst 1, 1, 0, 0, 1, 0, [], none, []),
  (33, .goto 4, 3, 37, 0, 0, 0, [], none, []),
  (36, .iconst 0, 1, 0, 0, 0, 0, [], none, []),
  (37, .ireturn, 1, 0, 0, 0, 0, [], none, [])]
theorem k_Ru_isFor : zOK m_Ru_isFor P_Ru_isFor := (by decide +kernel : P_Ru_isFor.all (zchk m_Ru_isFor.1.cls m_Ru_isFor.2.1) = true)

def P_Ru_verdict : List zEn := [
  (0, .aload_n 1, 1, 0, 0, 0, 0, [], none, []),
  (1, .getfield 36, 3, 3, 4, 0, 0, [], none, [112]),
  (4, .iload 4, 2, 0, 0, 0, 0, [], none, []),
  (6, .aaload, 1, 0, 0, 0, 0, [], none, []),
  (7, .aload_n 0, 1, 0, 0, 0, 0, [], none, []),
  (8, .getfield 41, 3, 4, 1, 0, 0, [], none, [175]),
  (11, .iaload, 1, 0, 0, 0, 0, [], none, []),
  (12, .istore 6, 2, 0, 0, 0, 0, [], none, []),
  (14, .aload_n 1, 1, 0, 0, 0, 0, [], none, []),
  (15, .getfield 36, 3, 3, 4, 0, 0, [], none, [112]),
  (18, .iload 5, 2, 0, 0, 0, 0, [], none, []),
  (20, .aaload, 1, 0, 0, 0, 0, [], none, []),
  (21, .aload_n 0, 1, 0, 0, 0, 0, [], none, []),
  (22, .getfield 41, 3, 4, 1, 0, 0, [], none, [175]),
  (25, .iaload, 1, 0, 0, 0, 0, [], none, []),
  (26, .istore 7, 2, 0, 0, 0, 0, [], none, []),
  (28, .iload 6, 2, 0, 0, 0, 0, [], none, []),
  (30, .iload 7, 2, 0, 0, 0, 0, [], none, []),
  (32, .if_icmp .eq 36, 3, 68, 0, 0, 0, [], none, []),
  (35, .aload_n 0, 1, 0, 0, 0, 0, [], none, []),
  (36, .iload_n 2, 1, 0, 0, 0, 0, [], none, []),
  (37, .iload_n 3, 1, 0, 0, 0, 0, [], none, []),
  (38, .invokevirtual 44, 3, 4, 2, 0, 0, [], some m_Ru_isFor, [673, 675, 16, 70, 676]),
  (41, .ifCond .eq 27, 3, 68, 0, 0, 0, [], none, []),
  (44, .aload_n 0, 1, 0, 0, 0, 0, [], none, []),
  (45, .aload_n 1, 1, 0, 0, 0, 0, [], none, []),
  (46, .iload 4, 2, 0, 0, 0, 0, [], none, []),
  (48, .iload 5, 2, 0, 0, 0, 0, [], none, []),
  (50, .invokevirtual 48, 3, 4, 3, 0, 0, [], some m_Ru_holds, [677, 679, 17, 70, 680]),
  (53, .ifCond .ne 17, 3, 70, 0, 0, 0, [], none, []),
  (56, .aload_n 0, 1, 0, 0, 0, 0, [], none, []),
  (57, .aload_n 1, 1, 0, 0, 0, 0, [], none, []),
  (58, .iload 5, 2, 0, 0, 0, 0, [], none, []),
  (60, .iload 4, 2, 0, 0, 0, 0, [], none, []),
  (62, .invokevirtual 48, 3, 4, 3, 0, 0, [], some m_Ru_holds, [677, 679, 17, 70, 680]),
  (65, .ifCond .ne 5, 3, 70, 0, 0, 0, [], none, []),
  (68, .iconst 0, 1, 0, 0, 0, 0, [], none, []),
  (69, .ireturn, 1, 0, 0, 0, 0, [], none, []),
  (70, .iload 6, 2, 0, 0, 0, 0, [], none, []),
  (72, .iload 7, 2, 0, 0, 0, 0, [], none, []),
  (74, .if_icmp .ge 7, 3, 81, 0, 0, 0, [], none, []),
  (77, .iconst 1, 1, 0, 0, 1, 0, [], none, []),
  (78, .goto 4, 3, 82, 0, 0, 0, [], none, []),
  (81, .iconst 0, 1, 0, 0, 0, 0, [], none, []),
  (82, .aload_n 0, 1, 0, 0, 0, 0, [], none, []),
  (83, .getfield 52, 3, 4, 2, 0, 0, [], none, [177]),
  (86, .if_icmp .eq 7, 3, 93, 0, 0, 0, [], none, []),
  (89, .iconst 1, 1, 0, 0, 1, 0, [], none, []),
  (90, .goto 4, 3, 94, 0, 0, 0, [], none, []),
  (93, .iconst (-1), 1, 0, 0, -1, 0, [], none, []),
  (94, .ireturn, 1, 0, 0, 0, 0, [], none, [])]
theorem k_Ru_verdict : zOK m_Ru_verdict P_Ru_verdict := (by decide +kernel : P_Ru_verdict.all (zchk m_Ru_verdict.1.cls m_Ru_verdict.2.1) = true)

def P_Ru_holds : List zEn := [
  (0, .iconst 0, 1, 0, 0, 0, 0, [], none, []),
  (1, .istore 4, 2, 0, 0, 0, 0, [], none, []),
  (3, .iload 4, 2, 0, 0, 0, 0, [], none, []),
  (5, .aload_n 0, 1, 0, 0, 0, 0, [], none, []),
  (6, .getfield 56, 3, 4, 4, 0, 0, [], none, [181]),
  (9, .if_icmp .ge 76, 3, 85, 0, 0, 0, [], none, []),
  (12, .aload_n 1, 1, 0, 0, 0, 0, [], none, []),
  (13, .getfield 36, 3, 3, 4, 0, 0, [], none, [112]),
  (16, .aload_n 0, 1, 0, 0, 0, 0, [], none, []),
  (17, .getfield 13, 3, 4, 8, 0, 0, [], none, [189]),
  (20, .iload 4, 2, 0, 0, 0, 0, [], none, []),
  (22, .baload, 1, 0, 0, 0, 0, [], none, []),
  (23, .ifCond .eq 7, 3, 30, 0, 0, 0, [], none, []),
  (26, .iload_n 3, 1, 0, 0, 0, 0, [], none, []),
  (27, .goto 4, 3, 31, 0, 0, 0, [], none, []),
  (30, .iload_n 2, 1, 0, 0, 0, 0, [], none, []),
  (31, .aaload, 1, 0, 0, 0, 0, [], none, []),
  (32, .aload_n 0, 1, 0, 0, 0, 0, [], none, []),
  (33, .getfield 16, 3, 4, 9, 0, 0, [], none, [191]),
  (36, .iload 4, 2, 0, 0, 0, 0, [], none, []),
  (38, .iaload, 1, 0, 0, 0, 0, [], none, []),
  (39, .iaload, 1, 0, 0, 0, 0, [], none, []),
  (40, .istore 5, 2, 0, 0, 0, 0, [], none, []),
  (42, .aload_n 0, 1, 0, 0, 0, 0, [], none, []),
  (43, .iload 4, 2, 0, 0, 0, 0, [], none, []),
  (45, .iload 5, 2, 0, 0, 0, 0, [], none, []),
  (47, .invokevirtual 59, 3, 4, 2, 0, 0, [], some m_Ru_isAsTold, [681, 683, 18, 70, 684]),
  (50, .aload_n 0, 1, 0, 0, 0, 0, [], none, []),
  (51, .getfield 9, 3, 4, 7, 0, 0, [], none, [187]),
  (54, .iload 4, 2, 0, 0, 0, 0, [], none, []),
  (56, .baload, 1, 0, 0, 0, 0, [], none, []),
  (57, .if_icmp .eq 7, 3, 64, 0, 0, 0, [], none, []),
  (60, .iconst 1, 1, 0, 0, 1, 0, [], none, []),
  (61, .goto 4, 3, 65, 0, 0, 0, [], none, []),
  (64, .iconst 0, 1, 0, 0, 0, 0, [], none, []),
  (65, .istore 6, 2, 0, 0, 0, 0, [], none, []),
  (67, .iload 6, 2, 0, 0, 0, 0, [], none, []),
  (69, .aload_n 0, 1, 0, 0, 0, 0, [], none, []),
  (70, .getfield 62, 3, 4, 3, 0, 0, [], none, [180]),
  (73, .if_icmp .ne 6, 3, 79, 0, 0, 0, [], none, []),
  (76, .iload 6, 2, 0, 0, 0, 0, [], none, []),
  (78, .ireturn, 1, 0, 0, 0, 0, [], none, []),
  (79, .iinc 4 1, 3, 0, 0, 1, 0, [], none, []),
  (82, .goto (-79), 3, 3, 0, 0, 0, [], none, []),
  (85, .aload_n 0, 1, 0, 0, 0, 0, [], none, []),
  (86, .getfield 62, 3, 4, 3, 0, 0, [], none, [180]),
  (89, .ifCond .ne 7, 3, 96, 0, 0, 0, [], none, []),
  (92, .iconst 1, 1, 0, 0, 1, 0, [], none, []),
  (93, .goto 4, 3, 97, 0, 0, 0, [], none, []),
  (96, .iconst 0, 1, 0, 0, 0, 0, [], none, []),
  (97, .ireturn, 1, 0, 0, 0, 0, [], none, [])]
theorem k_Ru_holds : zOK m_Ru_holds P_Ru_holds := (by decide +kernel : P_Ru_holds.all (zchk m_Ru_holds.1.cls m_Ru_holds.2.1) = true)

def P_Ru_isAsTold : List zEn := [
  (0, .aload_n 0, 1, 0, 0, 0, 0, [], none, []),
  (1, .getfield 20, 3, 4, 10, 0, 0, [], none, [193]),
  (4, .iload_n 1, 1, 0, 0, 0, 0, [], none, []),
  (5, .iaload, 1, 0, 0, 0, 0, [], none, []),
  (6, .lookupswitch 58 #[(0, 26), (1, 42)], 26, 64, 0, 0, 0, [(0, 32), (1, 48)], none, []),
  (32, .iload_n 2, 1, 0, 0, 0, 0, [], none, []),
  (33, .aload_n 0, 1, 0, 0, 0, 0, [], none, []),
  (34, .getfield 23, 3, 4, 11, 0, 0, [], none, [195]),
  (37, .iload_n 1, 1, 0, 0, 0, 0, [], none, []),
  (38, .iaload, 1, 0, 0, 0, 0, [], none, []),
  (39, .if_icmp .ne 7, 3, 46, 0, 0, 0, [], none, []),
  (42, .iconst 1, 1, 0, 0, 1, 0, [], none, []),
  (43, .goto 4, 3, 47, 0, 0, 0, [], none, []),
  (46, .iconst 0, 1, 0, 0, 0, 0, [], none, []),
  (47, .ireturn, 1, 0, 0, 0, 0, [], none, []),
  (48, .iload_n 2, 1, 0, 0, 0, 0, [], none, []),
  (49, .aload_n 0, 1, 0, 0, 0, 0, [], none, []),
  (50, .getfield 23, 3, 4, 11, 0, 0, [], none, [195]),
  (53, .iload_n 1, 1, 0, 0, 0, 0, [], none, []),
  (54, .iaload, 1, 0, 0, 0, 0, [], none, []),
  (55, .if_icmp .ge 7, 3, 62, 0, 0, 0, [], none, []),
  (58, .iconst 1, 1, 0, 0, 1, 0, [], none, []),
  (59, .goto 4, 3, 63, 0, 0, 0, [], none, []),
  (62, .iconst 0, 1, 0, 0, 0, 0, [], none, []),
  (63, .ireturn, 1, 0, 0, 0, 0, [], none, []),
  (64, .iload_n 2, 1, 0, 0, 0, 0, [], none, []),
  (65, .aload_n 0, 1, 0, 0, 0, 0, [], none, []),
  (66, .getfield 23, 3, 4, 11, 0, 0, [], none, [195]),
  (69, .iload_n 1, 1, 0, 0, 0, 0, [], none, []),
  (70, .iaload, 1, 0, 0, 0, 0, [], none, []),
  (71, .if_icmp .le 7, 3, 78, 0, 0, 0, [], none, []),
  (74, .iconst 1, 1, 0, 0, 1, 0, [], none, []),
  (75, .goto 4, 3, 79, 0, 0, 0, [], none, []),
  (78, .iconst 0, 1, 0, 0, 0, 0, [], none, []),
  (79, .ireturn, 1, 0, 0, 0, 0, [], none, [])]
theorem k_Ru_isAsTold : zOK m_Ru_isAsTold P_Ru_isAsTold := (by decide +kernel : P_Ru_isAsTold.all (zchk m_Ru_isAsTold.1.cls m_Ru_isAsTold.2.1) = true)

def P_Bo_hasRule : List zEn := [
  (0, .iload_n 1, 1, 0, 0, 0, 0, [], none, []),
  (1, .ifCond .lt 15, 3, 16, 0, 0, 0, [], none, []),
  (4, .iload_n 1, 1, 0, 0, 0, 0, [], none, []),
  (5, .aload_n 0, 1, 0, 0, 0, 0, [], none, []),
  (6, .getfield 29, 3, 5, 0, 0, 0, [], none, [223]),
  (9, .if_icmp .ge 7, 3, 16, 0, 0, 0, [], none, []),
  (12, .iconst 1, 1, 0, 0, 1, 0, [], none, []),
  (13, .goto 4, 3, 17, 0, 0, 0, [], none, []),
  (16, .iconst 0, 1, 0, 0, 0, 0, [], none, []),
  (17, .ireturn, 1, 0, 0, 0, 0, [], none, [])]
theorem k_Bo_hasRule : zOK m_Bo_hasRule P_Bo_hasRule := (by decide +kernel : P_Bo_hasRule.all (zchk m_Bo_hasRule.1.cls m_Bo_hasRule.2.1) = true)

def P_Bo_addHand : List zEn := [
  (0, .aload_n 0, 1, 0, 0, 0, 0, [], none, []),
  (1, .getfield 17, 3, 5, 3, 0, 0, [], none, [229]),
  (4, .aload_n 0, 1, 0, 0, 0, 0, [], none, []),
  (5, .getfield 33, 3, 5, 1, 0, 0, [], none, [225]),
  (8, .iload_n 1, 1, 0, 0, 0, 0, [], none, []),
  (9, .iastore, 1, 0, 0, 0, 0, [], none, []),
  (10, .aload_n 0, 1, 0, 0, 0, 0, [], none, []),
  (11, .getfield 21, 3, 5, 4, 0, 0, [], none, [230]),
  (14, .aload_n 0, 1, 0, 0, 0, 0, [], none, []),
  (15, .getfield 33, 3, 5, 1, 0, 0, [], none, [225]),
  (18, .iload_n 2, 1, 0, 0, 0, 0, [], none, []),
  (19, .iastore, 1, 0, 0, 0, 0, [], none, []),
  (20, .aload_n 0, 1, 0, 0, 0, 0, [], none, []),
  (21, .dup, 1, 0, 0, 0, 0, [], none, []),
  (22, .getfield 33, 3, 5, 1, 0, 0, [], none, [225]),
  (25, .iconst 1, 1, 0, 0, 1, 0, [], none, []),
  (26, .iadd, 1, 0, 0, 0, 0, [], none, []),
  (27, .putfield 33, 3, 5, 1, 0, 0, [], none, [225]),
  (30, .aload_n 0, 1, 0, 0, 0, 0, [], none, []),
  (31, .getfield 33, 3, 5, 1, 0, 0, [], none, [225]),
  (34, .ireturn, 1, 0, 0, 0, 0, [], none, [])]
theorem k_Bo_addHand : zOK m_Bo_addHand P_Bo_addHand := (by decide +kernel : P_Bo_addHand.all (zchk m_Bo_addHand.1.cls m_Bo_addHand.2.1) = true)

def P_Bo_toldByHand : List zEn := [
  (0, .aload_n 0, 1, 0, 0, 0, 0, [], none, []),
  (1, .getfield 33, 3, 5, 1, 0, 0, [], none, [225]),
  (4, .iconst 1, 1, 0, 0, 1, 0, [], none, []),
  (5, .isub, 1, 0, 0, 0, 0, [], none, []),
  (6, .istore_n 3, 1, 0, 0, 0, 0, [], none, []),
  (7, .iload_n 3, 1, 0, 0, 0, 0, [], none, []),
  (8, .ifCond .lt 53, 3, 61, 0, 0, 0, [], none, []),
  (11, .aload_n 0, 1, 0, 0, 0, 0, [], none, []),
  (12, .getfield 17, 3, 5, 3, 0, 0, [], none, [229]),
  (15, .iload_n 3, 1, 0, 0, 0, 0, [], none, []),
  (16, .iaload, 1, 0, 0, 0, 0, [], none, []),
  (17, .iload_n 1, 1, 0, 0, 0, 0, [], none, []),
  (18, .if_icmp .ne 15, 3, 33, 0, 0, 0, [], none, []),
  (21, .aload_n 0, 1, 0, 0, 0, 0, [], none, []),
  (22, .getfield 21, 3, 5, 4, 0, 0, [], none, [230]),
  (25, .iload_n 3, 1, 0, 0, 0, 0, [], none, []),
  (26, .iaload, 1, 0, 0, 0, 0, [], none, []),
  (27, .iload_n 2, 1, 0, 0, 0, 0, [], none, []),
  (28, .if_icmp .ne 5, 3, 33, 0, 0, 0, [], none, []),
  (31, .iconst 1, 1, 0, 0, 1, 0, [], none, []),
  (32, .ireturn, 1, 0, 0, 0, 0, [], none, []),
  (33, .aload_n 0, 1, 0, 0, 0, 0, [], none, []),
  (34, .getfield 17, 3, 5, 3, 0, 0, [], none, [229]),
  (37, .iload_n 3, 1, 0, 0, 0, 0, [], none, []),
  (38, .iaload, 1, 0, 0, 0, 0, [], none, []),
  (39, .iload_n 2, 1, 0, 0, 0, 0, [], none, []),
  (40, .if_icmp .ne 15, 3, 55, 0, 0, 0, [], none, []),
  (43, .aload_n 0, 1, 0, 0, 0, 0, [], none, []),
  (44, .getfield 21, 3, 5, 4, 0, 0, [], none, [230]),
  (47, .iload_n 3, 1, 0, 0, 0, 0, [], none, []),
  (48, .iaload, 1, 0, 0, 0, 0, [], none, []),
  (49, .iload_n 1, 1, 0, 0, 0, 0, [], none, []),
  (50, .if_icmp .ne 5, 3, 55, 0, 0, 0, [], none, []),
  (53, .iconst (-1), 1, 0, 0, -1, 0, [], none, []),
  (54, .ireturn, 1, 0, 0, 0, 0, [], none, []),
  (55, .iinc 3 (-1), 3, 0, 0, -1, 0, [], none, []),
  (58, .goto (-51), 3, 7, 0, 0, 0, [], none, []),
  (61, .iconst 0, 1, 0, 0, 0, 0, [], none, []),
  (62, .ireturn, 1, 0, 0, 0, 0, [], none, [])]
theorem k_Bo_toldByHand : zOK m_Bo_toldByHand P_Bo_toldByHand := (by decide +kernel : P_Bo_toldByHand.all (zchk m_Bo_toldByHand.1.cls m_Bo_toldByHand.2.1) = true)

def P_Bo_leader : List zEn := [
  (0, .aload_n 0, 1, 0, 0, 0, 0, [], none, []),
  (1, .iload_n 3, 1, 0, 0, 0, 0, [], none, []),
  (2, .iload 4, 2, 0, 0, 0, 0, [], none, []),
  (4, .invokevirtual 36, 3, 5, 2, 0, 0, [], some m_Bo_toldByHand, [701, 702, 703, 69, 704]),
  (7, .istore 5, 2, 0, 0, 0, 0, [], none, []),
  (9, .iload 5, 2, 0, 0, 0, 0, [], none, []),
  (11, .ifCond .eq 6, 3, 17, 0, 0, 0, [], none, []),
  (14, .iload 5, 2, 0, 0, 0, 0, [], none, []),
  (16, .ireturn, 1, 0, 0, 0, 0, [], none, []),
  (17, .aload_n 0, 1, 0, 0, 0, 0, [], none, []),
  (18, .iload_n 1, 1, 0, 0, 0, 0, [], none, []),
  (19, .iload_n 2, 1, 0, 0, 0, 0, [], none, []),
  (20, .iload_n 3, 1, 0, 0, 0, 0, [], none, []),
  (21, .iload 4, 2, 0, 0, 0, 0, [], none, []),
  (23, .invokevirtual 40, 3, 5, 4, 0, 0, [], some m_Bo_goingRule, [705, 706, 707, 69, 708]),
  (26, .istore 6, 2, 0, 0, 0, 0, [], none, []),
  (28, .iload 6, 2, 0, 0, 0, 0, [], none, []),
  (30, .iconst (-1), 1, 0, 0, -1, 0, [], none, []),
  (31, .if_icmp .ne 7, 3, 38, 0, 0, 0, [], none, []),
  (34, .iconst 0, 1, 0, 0, 0, 0, [], none, []),
  (35, .goto 22, 3, 57, 0, 0, 0, [], none, []),
  (38, .aload_n 0, 1, 0, 0, 0, 0, [], none, []),
  (39, .getfield 13, 3, 5, 2, 0, 0, [], none, [227]),
  (42, .iload 6, 2, 0, 0, 0, 0, [], none, []),
  (44, .aaload, 1, 0, 0, 0, 0, [], none, []),
  (45, .aload_n 0, 1, 0, 0, 0, 0, [], none, []),
  (46, .getfield 24, 3, 5, 5, 0, 0, [], none, [231]),
  (49, .iload_n 1, 1, 0, 0, 0, 0, [], none, []),
  (50, .iload_n 2, 1, 0, 0, 0, 0, [], none, []),
  (51, .iload_n 3, 1, 0, 0, 0, 0, [], none, []),
  (52, .iload 4, 2, 0, 0, 0, 0, [], none, []),
  (54, .invokevirtual 44, 3, 4, 5, 0, 0, [], some m_Ru_verdict, [709, 670, 671, 70, 672]),
  (57, .ireturn, 1, 0, 0, 0, 0, [], none, [])]
theorem k_Bo_leader : zOK m_Bo_leader P_Bo_leader := (by decide +kernel : P_Bo_leader.all (zchk m_Bo_leader.1.cls m_Bo_leader.2.1) = true)

def P_Bo_goingRule : List zEn := [
  (0, .iconst (-1), 1, 0, 0, -1, 0, [], none, []),
  (1, .istore 5, 2, 0, 0, 0, 0, [], none, []),
  (3, .aload_n 0, 1, 0, 0, 0, 0, [], none, []),
  (4, .getfield 29, 3, 5, 0, 0, 0, [], none, [223]),
  (7, .iconst 1, 1, 0, 0, 1, 0, [], none, []),
  (8, .isub, 1, 0, 0, 0, 0, [], none, []),
  (9, .istore 6, 2, 0, 0, 0, 0, [], none, []),
  (11, .iload 6, 2, 0, 0, 0, 0, [], none, []),
  (13, .ifCond .lt 78, 3, 91, 0, 0, 0, [], none, []),
  (16, .aload_n 0, 1, 0, 0, 0, 0, [], none, []),
  (17, .getfield 13, 3, 5, 2, 0, 0, [], none, [227]),
  (20, .iload 6, 2, 0, 0, 0, 0, [], none, []),
  (22, .aaload, 1, 0, 0, 0, 0, [], none, []),
  (23, .getfield 48, 3, 4, 0, 0, 0, [], none, [174]),
  (26, .iconst (-1), 1, 0, 0, -1, 0, [], none, []),
  (27, .if_icmp .ne 7, 3, 34, 0, 0, 0, [], none, []),
  (30, .iconst 1, 1, 0, 0, 1, 0, [], none, []),
  (31, .goto 4, 3, 35, 0, 0, 0, [], none, []),
  (34, .iconst 0, 1, 0, 0, 0, 0, [], none, []),
  (35, .istore 7, 2, 0, 0, 0, 0, [], none, []),
  (37, .iload 7, 2, 0, 0, 0, 0, [], none, []),
  (39, .ifCond .eq 9, 3, 48, 0, 0, 0, [], none, []),
  (42, .iload 5, 2, 0, 0, 0, 0, [], none, []),
  (44, .iconst (-1), 1, 0, 0, -1, 0, [], none, []),
  (45, .if_icmp .ne 40, 3, 85, 0, 0, 0, [], none, []),
  (48, .aload_n 0, 1, 0, 0, 0, 0, [], none, []),
  (49, .getfield 13, 3, 5, 2, 0, 0, [], none, [227]),
  (52, .iload 6, 2, 0, 0, 0, 0, [], none, []),
  (54, .aaload, 1, 0, 0, 0, 0, [], none, []),
  (55, .aload_n 0, 1, 0, 0, 0, 0, [], none, []),
  (56, .getfield 24, 3, 5, 5, 0, 0, [], none, [231]),
  (59, .iload_n 1, 1, 0, 0, 0, 0, [], none, []),
  (60, .iload_n 2, 1, 0, 0, 0, 0, [], none, []),
  (61, .iload_n 3, 1, 0, 0, 0, 0, [], none, []),
  (62, .iload 4, 2, 0, 0, 0, 0, [], none, []),
  (64, .invokevirtual 44, 3, 4, 5, 0, 0, [], some m_Ru_verdict, [709, 670, 671, 70, 672]),
  (67, .ifCond .ne 6, 3, 73, 0, 0, 0, [], none, []),
  (70, .goto 15, 3, 85, 0, 0, 0, [], none, []),
  (73, .iload 7, 2, 0, 0, 0, 0, [], none, []),
  (75, .ifCond .ne 6, 3, 81, 0, 0, 0, [], none, []),
  (78, .iload 6, 2, 0, 0, 0, 0, [], none, []),
  (80, .ireturn, 1, 0, 0, 0, 0, [], none, []),
  (81, .iload 6, 2, 0, 0, 0, 0, [], none, []),
  (83, .istore 5, 2, 0, 0, 0, 0, [], none, []),
  (85, .iinc 6 (-1), 3, 0, 0, -1, 0, [], none, []),
  (88, .goto (-77), 3, 11, 0, 0, 0, [], none, []),
  (91, .iload 5, 2, 0, 0, 0, 0, [], none, []),
  (93, .ireturn, 1, 0, 0, 0, 0, [], none, [])]
theorem k_Bo_goingRule : zOK m_Bo_goingRule P_Bo_goingRule := (by decide +kernel : P_Bo_goingRule.all (zchk m_Bo_goingRule.1.cls m_Bo_goingRule.2.1) = true)

def P_Bo_contraryRule : List zEn := [
  (0, .aload_n 0, 1, 0, 0, 0, 0, [], none, []),
  (1, .iload_n 1, 1, 0, 0, 0, 0, [], none, []),
  (2, .iload_n 2, 1, 0, 0, 0, 0, [], none, []),
  (3, .iload_n 3, 1, 0, 0, 0, 0, [], none, []),
  (4, .iload 4, 2, 0, 0, 0, 0, [], none, []),
  (6, .invokevirtual 40, 3, 5, 4, 0, 0, [], some m_Bo_goingRule, [705, 706, 707, 69, 708]),
  (9, .istore 5, 2, 0, 0, 0, 0, [], none, []),
  (11, .iload 5, 2, 0, 0, 0, 0, [], none, []),
  (13, .iconst (-1), 1, 0, 0, -1, 0, [], none, []),
  (14, .if_icmp .ne 5, 3, 19, 0, 0, 0, [], none, []),
  (17, .iconst (-1), 1, 0, 0, -1, 0, [], none, []),
  (18, .ireturn, 1, 0, 0, 0, 0, [], none, []),
  (19, .aload_n 0, 1, 0, 0, 0, 0, [], none, []),
  (20, .getfield 13, 3, 5, 2, 0, 0, [], none, [227]),
  (23, .iload 5, 2, 0, 0, 0, 0, [], none, []),
  (25, .aaload, 1, 0, 0, 0, 0, [], none, []),
  (26, .aload_n 0, 1, 0, 0, 0, 0, [], none, []),
  (27, .getfield 24, 3, 5, 5, 0, 0, [], none, [231]),
  (30, .iload_n 1, 1, 0, 0, 0, 0, [], none, []),
  (31, .iload_n 2, 1, 0, 0, 0, 0, [], none, []),
  (32, .iload_n 3, 1, 0, 0, 0, 0, [], none, []),
  (33, .iload 4, 2, 0, 0, 0, 0, [], none, []),
  (35, .invokevirtual 44, 3, 4, 5, 0, 0, [], some m_Ru_verdict, [709, 670, 671, 70, 672]),
  (38, .istore 6, 2, 0, 0, 0, 0, [], none, []),
  (40, .iconst 0, 1, 0, 0, 0, 0, [], none, []),
  (41, .istore 7, 2, 0, 0, 0, 0, [], none, []),
  (43, .iload 7, 2, 0, 0, 0, 0, [], none, []),
  (45, .aload_n 0, 1, 0, 0, 0, 0, [], none, []),
  (46, .getfield 29, 3, 5, 0, 0, 0, [], none, [223]),
  (49, .if_icmp .ge 37, 3, 86, 0, 0, 0, [], none, []),
  (52, .aload_n 0, 1, 0, 0, 0, 0, [], none, []),
  (53, .getfield 13, 3, 5, 2, 0, 0, [], none, [227]),
  (56, .iload 7, 2, 0, 0, 0, 0, [], none, []),
  (58, .aaload, 1, 0, 0, 0, 0, [], none, []),
  (59, .aload_n 0, 1, 0, 0, 0, 0, [], none, []),
  (60, .getfield 24, 3, 5, 5, 0, 0, [], none, [231]),
  (63, .iload_n 1, 1, 0, 0, 0, 0, [], none, []),
  (64, .iload_n 2, 1, 0, 0, 0, 0, [], none, []),
  (65, .iload_n 3, 1, 0, 0, 0, 0, [], none, []),
  (66, .iload 4, 2, 0, 0, 0, 0, [], none, []),
  (68, .invokevirtual 44, 3, 4, 5, 0, 0, [], some m_Ru_verdict, [709, 670, 671, 70, 672]),
  (71, .iload 6, 2, 0, 0, 0, 0, [], none, []),
  (73, .ineg, 1, 0, 0, 0, 0, [], none, []),
  (74, .if_icmp .ne 6, 3, 80, 0, 0, 0, [], none, []),
  (77, .iload 7, 2, 0, 0, 0, 0, [], none, []),
  (79, .ireturn, 1, 0, 0, 0, 0, [], none, []),
  (80, .iinc 7 1, 3, 0, 0, 1, 0, [], none, []),
  (83, .goto (-40), 3, 43, 0, 0, 0, [], none, []),
  (86, .iconst (-1), 1, 0, 0, -1, 0, [], none, []),
  (87, .ireturn, 1, 0, 0, 0, 0, [], none, [])]
theorem k_Bo_contraryRule : zOK m_Bo_contraryRule P_Bo_contraryRule := (by decide +kernel : P_Bo_contraryRule.all (zchk m_Bo_contraryRule.1.cls m_Bo_contraryRule.2.1) = true)

def P_Tb_open : List zEn := [
  (0, .aload_n 0, 1, 0, 0, 0, 0, [], none, []),
  (1, .iload_n 1, 1, 0, 0, 0, 0, [], none, []),
  (2, .putfield 15, 3, 7, 2, 1, 0, [], none, [310]),
  (5, .aload_n 0, 1, 0, 0, 0, 0, [], none, []),
  (6, .iload_n 2, 1, 0, 0, 0, 0, [], none, []),
  (7, .putfield 19, 3, 7, 0, 0, 0, [], none, [303]),
  (10, .aload_n 0, 1, 0, 0, 0, 0, [], none, []),
  (11, .getfield 11, 3, 7, 1, 0, 0, [], none, [306]),
  (14, .iconst (-1), 1, 0, 0, -1, 0, [], none, []),
  (15, .invokestatic 23, 3, 0, 2, 0, 0, [], some m_Jarr_fill, [792, 758, 82, 759]),
  (18, .return_, 1, 0, 0, 0, 0, [], none, [])]
theorem k_Tb_open : zOK m_Tb_open P_Tb_open := (by decide +kernel : P_Tb_open.all (zchk m_Tb_open.1.cls m_Tb_open.2.1) = true)

def P_Tb_lowerBeside : List zEn := [
  (0, .iload_n 1, 1, 0, 0, 0, 0, [], none, []),
  (1, .ifCond .le 9, 3, 10, 0, 0, 0, [], none, []),
  (4, .iload_n 1, 1, 0, 0, 0, 0, [], none, []),
  (5, .iconst 1, 1, 0, 0, 1, 0, [], none, []),
  (6, .isub, 1, 0, 0, 0, 0, [], none, []),
  (7, .goto 4, 3, 11, 0, 0, 0, [], none, []),
  (10, .iconst (-1), 1, 0, 0, -1, 0, [], none, []),
  (11, .ireturn, 1, 0, 0, 0, 0, [], none, [])]
theorem k_Tb_lowerBeside : zOK m_Tb_lowerBeside P_Tb_lowerBeside := (by decide +kernel : P_Tb_lowerBeside.all (zchk m_Tb_lowerBeside.1.cls m_Tb_lowerBeside.2.1) = true)

def P_Tb_lowerAround : List zEn := [
  (0, .aload_n 0, 1, 0, 0, 0, 0, [], none, []),
  (1, .getfield 15, 3, 7, 2, 0, 0, [], none, [310]),
  (4, .ifCond .eq 25, 3, 29, 0, 0, 0, [], none, []),
  (7, .aload_n 0, 1, 0, 0, 0, 0, [], none, []),
  (8, .getfield 19, 3, 7, 0, 0, 0, [], none, [303]),
  (11, .iconst 2, 1, 0, 0, 2, 0, [], none, []),
  (12, .if_icmp .le 17, 3, 29, 0, 0, 0, [], none, []),
  (15, .iload_n 1, 1, 0, 0, 0, 0, [], none, []),
  (16, .aload_n 0, 1, 0, 0, 0, 0, [], none, []),
  (17, .getfield 19, 3, 7, 0, 0, 0, [], none, [303]),
  (20, .iconst 1, 1, 0, 0, 1, 0, [], none, []),
  (21, .isub, 1, 0, 0, 0, 0, [], none, []),
  (22, .if_icmp .ne 7, 3, 29, 0, 0, 0, [], none, []),
  (25, .iconst 0, 1, 0, 0, 0, 0, [], none, []),
  (26, .goto 4, 3, 30, 0, 0, 0, [], none, []),
  (29, .iconst (-1), 1, 0, 0, -1, 0, [], none, []),
  (30, .ireturn, 1, 0, 0, 0, 0, [], none, [])]
theorem k_Tb_lowerAround : zOK m_Tb_lowerAround P_Tb_lowerAround := (by decide +kernel : P_Tb_lowerAround.all (zchk m_Tb_lowerAround.1.cls m_Tb_lowerAround.2.1) = true)

def P_Tb_lowerFacing : List zEn := [
  (0, .aload_n 0, 1, 0, 0, 0, 0, [], none, []),
  (1, .getfield 19, 3, 7, 0, 0, 0, [], none, [303]),
  (4, .iconst 1, 1, 0, 0, 1, 0, [], none, []),
  (5, .isub, 1, 0, 0, 0, 0, [], none, []),
  (6, .iload_n 1, 1, 0, 0, 0, 0, [], none, []),
  (7, .isub, 1, 0, 0, 0, 0, [], none, []),
  (8, .istore_n 2, 1, 0, 0, 0, 0, [], none, []),
  (9, .aload_n 0, 1, 0, 0, 0, 0, [], none, []),
  (10, .getfield 15, 3, 7, 2, 0, 0, [], none, [310]),
  (13, .ifCond .ne 16, 3, 29, 0, 0, 0, [], none, []),
  (16, .iload_n 2, 1, 0, 0, 0, 0, [], none, []),
  (17, .ifCond .lt 12, 3, 29, 0, 0, 0, [], none, []),
  (20, .iload_n 2, 1, 0, 0, 0, 0, [], none, []),
  (21, .iload_n 1, 1, 0, 0, 0, 0, [], none, []),
  (22, .if_icmp .ge 7, 3, 29, 0, 0, 0, [], none, []),
  (25, .iload_n 2, 1, 0, 0, 0, 0, [], none, []),
  (26, .goto 4, 3, 30, 0, 0, 0, [], none, []),
  (29, .iconst (-1), 1, 0, 0, -1, 0, [], none, []),
  (30, .ireturn, 1, 0, 0, 0, 0, [], none, [])]
theorem k_Tb_lowerFacing : zOK m_Tb_lowerFacing P_Tb_lowerFacing := (by decide +kernel : P_Tb_lowerFacing.all (zchk m_Tb_lowerFacing.1.cls m_Tb_lowerFacing.2.1) = true)

def P_Tb_put : List zEn := [
  (0, .aload_n 0, 1, 0, 0, 0, 0, [], none, []),
  (1, .getfield 11, 3, 7, 1, 0, 0, [], none, [306]),
  (4, .iload_n 1, 1, 0, 0, 0, 0, [], none, []),
  (5, .iaload, 1, 0, 0, 0, 0, [], none, []),
  (6, .istore_n 3, 1, 0, 0, 0, 0, [], none, []),
  (7, .iload_n 2, 1, 0, 0, 0, 0, [], none, []),
  (8, .iconst (-1), 1, 0, 0, -1, 0, [], none, []),
  (9, .if_icmp .eq 8, 3, 17, 0, 0, 0, [], none, []),
  (12, .aload_n 0, 1, 0, 0, 0, 0, [], none, []),
  (13, .iload_n 2, 1, 0, 0, 0, 0, [], none, []),
  (14, .invokevirtual 29, 3, 7, 1, 0, 0, [], some m_Tb_removePerson, [826, 500, 501, 73, 502]),
  (17, .aload_n 0, 1, 0, 0, 0, 0, [], none, []),
  (18, .getfield 11, 3, 7, 1, 0, 0, [], none, [306]),
  (21, .iload_n 1, 1, 0, 0, 0, 0, [], none, []),
  (22, .iload_n 2, 1, 0, 0, 0, 0, [], none, []),
  (23, .iastore, 1, 0, 0, 0, 0, [], none, []),
  (24, .iload_n 3, 1, 0, 0, 0, 0, [], none, []),
  (25, .ireturn, 1, 0, 0, 0, 0, [], none, [])]
theorem k_Tb_put : zOK m_Tb_put P_Tb_put := (by decide +kernel : P_Tb_put.all (zchk m_Tb_put.1.cls m_Tb_put.2.1) = true)

def P_Tb_removePerson : List zEn := [
  (0, .iconst 0, 1, 0, 0, 0, 0, [], none, []),
  (1, .istore_n 2, 1, 0, 0, 0, 0, [], none, []),
  (2, .iload_n 2, 1, 0, 0, 0, 0, [], none, []),
  (3, .aload_n 0, 1, 0, 0, 0, 0, [], none, []),
  (4, .getfield 19, 3, 7, 0, 0, 0, [], none, [303]),
  (7, .if_icmp .ge 26, 3, 33, 0, 0, 0, [], none, []),
  (10, .aload_n 0, 1, 0, 0, 0, 0, [], none, []),
  (11, .getfield 11, 3, 7, 1, 0, 0, [], none, [306]),
  (14, .iload_n 2, 1, 0, 0, 0, 0, [], none, []),
  (15, .iaload, 1, 0, 0, 0, 0, [], none, []),
  (16, .iload_n 1, 1, 0, 0, 0, 0, [], none, []),
  (17, .if_icmp .ne 10, 3, 27, 0, 0, 0, [], none, []),
  (20, .aload_n 0, 1, 0, 0, 0, 0, [], none, []),
  (21, .getfield 11, 3, 7, 1, 0, 0, [], none, [306]),
  (24, .iload_n 2, 1, 0, 0, 0, 0, [], none, []),
  (25, .iconst (-1), 1, 0, 0, -1, 0, [], none, []),
  (26, .iastore, 1, 0, 0, 0, 0, [], none, []),
  (27, .iinc 2 1, 3, 0, 0, 1, 0, [], none, []),
  (30, .goto (-28), 3, 2, 0, 0, 0, [], none, []),
  (33, .return_, 1, 0, 0, 0, 0, [], none, [])]
theorem k_Tb_removePerson : zOK m_Tb_removePerson P_Tb_removePerson := (by decide +kernel : P_Tb_removePerson.all (zchk m_Tb_removePerson.1.cls m_Tb_removePerson.2.1) = true)

def P_Tb_moveUp : List zEn := [
  (0, .iconst 0, 1, 0, 0, 0, 0, [], none, []),
  (1, .istore_n 1, 1, 0, 0, 0, 0, [], none, []),
  (2, .iconst 0, 1, 0, 0, 0, 0, [], none, []),
  (3, .istore_n 2, 1, 0, 0, 0, 0, [], none, []),
  (4, .iload_n 2, 1, 0, 0, 0, 0, [], none, []),
  (5, .aload_n 0, 1, 0, 0, 0, 0, [], none, []),
  (6, .getfield 19, 3, 7, 0, 0, 0, [], none, [303]),
  (9, .if_icmp .ge 38, 3, 47, 0, 0, 0, [], none, []),
  (12, .aload_n 0, 1, 0, 0, 0, 0, [], none, []),
  (13, .getfield 11, 3, 7, 1, 0, 0, [], none, [306]),
  (16, .iload_n 2, 1, 0, 0, 0, 0, [], none, []),
  (17, .iaload, 1, 0, 0, 0, 0, [], none, []),
  (18, .istore_n 3, 1, 0, 0, 0, 0, [], none, []),
  (19, .iload_n 3, 1, 0, 0, 0, 0, [], none, []),
  (20, .iconst (-1), 1, 0, 0, -1, 0, [], none, []),
  (21, .if_icmp .eq 20, 3, 41, 0, 0, 0, [], none, []),
  (24, .aload_n 0, 1, 0, 0, 0, 0, [], none, []),
  (25, .getfield 11, 3, 7, 1, 0, 0, [], none, [306]),
  (28, .iload_n 2, 1, 0, 0, 0, 0, [], none, []),
  (29, .iconst (-1), 1, 0, 0, -1, 0, [], none, []),
  (30, .iastore, 1, 0, 0, 0, 0, [], none, []),
  (31, .aload_n 0, 1, 0, 0, 0, 0, [], none, []),
  (32, .getfield 11, 3, 7, 1, 0, 0, [], none, [306]),
  (35, .iload_n 1, 1, 0, 0, 0, 0, [], none, []),
  (36, .iload_n 3, 1, 0, 0, 0, 0, [], none, []),
  (37, .iastore, 1, 0, 0, 0, 0, [], none, []),
  (38, .iinc 1 1, 3, 0, 0, 1, 0, [], none, []),
  (41, .iinc 2 1, 3, 0, 0, 1, 0, [], none, []),
  (44, .goto (-40), 3, 4, 0, 0, 0, [], none, []),
  (47, .iload_n 1, 1, 0, 0, 0, 0, [], none, []),
  (48, .ireturn, 1, 0, 0, 0, 0, [], none, [])]
theorem k_Tb_moveUp : zOK m_Tb_moveUp P_Tb_moveUp := (by decide +kernel : P_Tb_moveUp.all (zchk m_Tb_moveUp.1.cls m_Tb_moveUp.2.1) = true)

def P_Tb_sittersAsSet : List zEn := [
  (0, .iconst 0, 1, 0, 0, 0, 0, [], none, []),
  (1, .istore_n 1, 1, 0, 0, 0, 0, [], none, []),
  (2, .iconst 0, 1, 0, 0, 0, 0, [], none, []),
  (3, .istore_n 2, 1, 0, 0, 0, 0, [], none, []),
  (4, .iload_n 2, 1, 0, 0, 0, 0, [], none, []),
  (5, .aload_n 0, 1, 0, 0, 0, 0, [], none, []),
  (6, .getfield 19, 3, 7, 0, 0, 0, [], none, [303]),
  (9, .if_icmp .ge 30, 3, 39, 0, 0, 0, [], none, []),
  (12, .aload_n 0, 1, 0, 0, 0, 0, [], none, []),
  (13, .getfield 11, 3, 7, 1, 0, 0, [], none, [306]),
  (16, .iload_n 2, 1, 0, 0, 0, 0, [], none, []),
  (17, .iaload, 1, 0, 0, 0, 0, [], none, []),
  (18, .iconst (-1), 1, 0, 0, -1, 0, [], none, []),
  (19, .if_icmp .eq 14, 3, 33, 0, 0, 0, [], none, []),
  (22, .iload_n 1, 1, 0, 0, 0, 0, [], none, []),
  (23, .iconst 1, 1, 0, 0, 1, 0, [], none, []),
  (24, .aload_n 0, 1, 0, 0, 0, 0, [], none, []),
  (25, .getfield 11, 3, 7, 1, 0, 0, [], none, [306]),
  (28, .iload_n 2, 1, 0, 0, 0, 0, [], none, []),
  (29, .iaload, 1, 0, 0, 0, 0, [], none, []),
  (30, .ishl, 1, 0, 0, 0, 0, [], none, []),
  (31, .ior, 1, 0, 0, 0, 0, [], none, []),
  (32, .istore_n 1, 1, 0, 0, 0, 0, [], none, []),
  (33, .iinc 2 1, 3, 0, 0, 1, 0, [], none, []),
  (36, .goto (-32), 3, 4, 0, 0, 0, [], none, []),
  (39, .iload_n 1, 1, 0, 0, 0, 0, [], none, []),
  (40, .ireturn, 1, 0, 0, 0, 0, [], none, [])]
theorem k_Tb_sittersAsSet : zOK m_Tb_sittersAsSet P_Tb_sittersAsSet := (by decide +kernel : P_Tb_sittersAsSet.all (zchk m_Tb_sittersAsSet.1.cls m_Tb_sittersAsSet.2.1) = true)

def P_Tp_append : List zEn := [
  (0, .iload_n 3, 1, 0, 0, 0, 0, [], none, []),
  (1, .iconst 1, 1, 0, 0, 1, 0, [], none, []),
  (2, .isub, 1, 0, 0, 0, 0, [], none, []),
  (3, .istore 4, 2, 0, 0, 0, 0, [], none, []),
  (5, .iload 4, 2, 0, 0, 0, 0, [], none, []),
  (7, .ifCond .lt 40, 3, 47, 0, 0, 0, [], none, []),
  (10, .aload_n 0, 1, 0, 0, 0, 0, [], none, []),
  (11, .getfield 11, 3, 8, 1, 0, 0, [], none, [147]),
  (14, .aload_n 0, 1, 0, 0, 0, 0, [], none, []),
  (15, .getfield 15, 3, 8, 0, 0, 0, [], none, [145]),
  (18, .lload_n 1, 1, 0, 0, 0, 0, [], none, []),
  (19, .bipush 8, 2, 0, 0, 8, 0, [], none, []),
  (21, .iload 4, 2, 0, 0, 0, 0, [], none, []),
  (23, .imul, 1, 0, 0, 0, 0, [], none, []),
  (24, .lushr, 1, 0, 0, 0, 0, [], none, []),
  (25, .l2i, 1, 0, 0, 0, 0, [], none, []),
  (26, .sipush 255, 3, 0, 0, 255, 0, [], none, []),
  (29, .iand, 1, 0, 0, 0, 0, [], none, []),
  (30, .iastore, 1, 0, 0, 0, 0, [], none, []),
  (31, .aload_n 0, 1, 0, 0, 0, 0, [], none, []),
  (32, .dup, 1, 0, 0, 0, 0, [], none, []),
  (33, .getfield 15, 3, 8, 0, 0, 0, [], none, [145]),
  (36, .iconst 1, 1, 0, 0, 1, 0, [], none, []),
  (37, .iadd, 1, 0, 0, 0, 0, [], none, []),
  (38, .putfield 15, 3, 8, 0, 0, 0, [], none, [145]),
  (41, .iinc 4 (-1), 3, 0, 0, -1, 0, [], none, []),
  (44, .goto (-39), 3, 5, 0, 0, 0, [], none, []),
  (47, .aload_n 0, 1, 0, 0, 0, 0, [], none, []),
  (48, .getfield 15, 3, 8, 0, 0, 0, [], none, [145]),
  (51, .ireturn, 1, 0, 0, 0, 0, [], none, [])]
theorem k_Tp_append : zOK m_Tp_append P_Tp_append := (by decide +kernel : P_Tp_append.all (zchk m_Tp_append.1.cls m_Tp_append.2.1) = true)

def P_Tp_clear : List zEn := [
  (0, .aload_n 0, 1, 0, 0, 0, 0, [], none, []),
  (1, .getfield 15, 3, 8, 0, 0, 0, [], none, [145]),
  (4, .istore_n 1, 1, 0, 0, 0, 0, [], none, []),
  (5, .aload_n 0, 1, 0, 0, 0, 0, [], none, []),
  (6, .iconst 0, 1, 0, 0, 0, 0, [], none, []),
  (7, .putfield 15, 3, 8, 0, 0, 0, [], none, [145]),
  (10, .iload_n 1, 1, 0, 0, 0, 0, [], none, []),
  (11, .ireturn, 1, 0, 0, 0, 0, [], none, [])]
theorem k_Tp_clear : zOK m_Tp_clear P_Tp_clear := (by decide +kernel : P_Tp_clear.all (zchk m_Tp_clear.1.cls m_Tp_clear.2.1) = true)

def P_Tp_readInto : List zEn := [
  (0, .aload_n 0, 1, 0, 0, 0, 0, [], none, []),
  (1, .iconst 0, 1, 0, 0, 0, 0, [], none, []),
  (2, .putfield 19, 3, 8, 2, 0, 0, [], none, [148]),
  (5, .aload_n 0, 1, 0, 0, 0, 0, [], none, []),
  (6, .iconst (-1), 1, 0, 0, -1, 0, [], none, []),
  (7, .putfield 22, 3, 8, 3, 0, 0, [], none, [149]),
  (10, .aload_n 1, 1, 0, 0, 0, 0, [], none, []),
  (11, .iconst 0, 1, 0, 0, 0, 0, [], none, []),
  (12, .putfield 25, 3, 4, 4, 0, 0, [], none, [182]),
  (15, .aload_n 1, 1, 0, 0, 0, 0, [], none, []),
  (16, .iconst 0, 1, 0, 0, 0, 0, [], none, []),
  (17, .putfield 30, 3, 4, 3, 1, 0, [], none, [179]),
  (20, .aload_n 0, 1, 0, 0, 0, 0, [], none, []),
  (21, .aload_n 1, 1, 0, 0, 0, 0, [], none, []),
  (22, .invokevirtual 34, 3, 8, 1, 0, 0, [], some m_Tp_readHead, [546, 548, 6, 68, 549]),
  (25, .aload_n 0, 1, 0, 0, 0, 0, [], none, []),
  (26, .invokevirtual 38, 3, 8, 0, 0, 0, [], some m_Tp_hasMore, [621, 623, 11, 68, 624]),
  (29, .ifCond .eq 8, 3, 37, 0, 0, 0, [], none, []),
  (32, .aload_n 0, 1, 0, 0, 0, 0, [], none, []),
  (33, .aload_n 1, 1, 0, 0, 0, 0, [], none, []),
  (34, .invokevirtual 42, 3, 8, 1, 0, 0, [], some m_Tp_readTests, [625, 627, 12, 68, 628]),
  (37, .aload_n 0, 1, 0, 0, 0, 0, [], none, []),
  (38, .invokevirtual 38, 3, 8, 0, 0, 0, [], some m_Tp_hasMore, [621, 623, 11, 68, 624]),
  (41, .ifCond .eq 11, 3, 52, 0, 0, 0, [], none, []),
  (44, .aload_n 0, 1, 0, 0, 0, 0, [], none, []),
  (45, .aload_n 0, 1, 0, 0, 0, 0, [], none, []),
  (46, .getfield 19, 3, 8, 2, 0, 0, [], none, [148]),
  (49, .invokevirtual 45, 3, 8, 1, 0, 0, [], some m_Tp_fail, [610, 612, 9, 68, 613]),
  (52, .aload_n 0, 1, 0, 0, 0, 0, [], none, []),
  (53, .getfield 22, 3, 8, 3, 0, 0, [], none, [149]),
  (56, .ireturn, 1, 0, 0, 0, 0, [], none, [])]
theorem k_Tp_readInto : zOK m_Tp_readInto P_Tp_readInto := (by decide +kernel : P_Tp_readInto.all (zchk m_Tp_readInto.1.cls m_Tp_readInto.2.1) = true)

def P_Tp_readHead : List zEn := [
  (0, .aload_n 0, 1, 0, 0, 0, 0, [], none, []),
  (1, .ldc 49, 2, 0, 0, 0, 0, [], some m_Jstr_length, []),
  (3, .invokevirtual 51, 3, 8, 1, 0, 0, [], some m_Tp_readWord, [551, 553, 7, 68, 554]),
  (6, .pop, 1, 0, 0, 0, 0, [], none, []),
  (7, .aload_n 0, 1, 0, 0, 0, 0, [], none, []),
  (8, .invokevirtual 55, 3, 8, 0, 0, 0, [], some m_Tp_readBlank, [614, 616, 10, 68, 617]),
  (11, .aload_n 1, 1, 0, 0, 0, 0, [], none, []),
  (12, .aload_n 0, 1, 0, 0, 0, 0, [], none, []),
  (13, .ldc 58, 2, 1, 0, 0, 0, [], some m_Jstr_length, []),
  (15, .invokevirtual 51, 3, 8, 1, 0, 0, [], some m_Tp_readWord, [551, 553, 7, 68, 554]),
  (18, .iconst 1, 1, 0, 0, 1, 0, [], none, []),
  (19, .isub, 1, 0, 0, 0, 0, [], none, []),
  (20, .putfield 60, 3, 4, 0, 0, 0, [], none, [173]),
  (23, .aload_n 0, 1, 0, 0, 0, 0, [], none, []),
  (24, .invokevirtual 55, 3, 8, 0, 0, 0, [], some m_Tp_readBlank, [614, 616, 10, 68, 617]),
  (27, .aload_n 1, 1, 0, 0, 0, 0, [], none, []),
  (28, .aload_n 0, 1, 0, 0, 0, 0, [], none, []),
  (29, .ldc 63, 2, 2, 0, 0, 0, [], some m_Jstr_length, []),
  (31, .invokevirtual 51, 3, 8, 1, 0, 0, [], some m_Tp_readWord, [551, 553, 7, 68, 554]),
  (34, .putfield 65, 3, 4, 1, 0, 0, [], none, [176]),
  (37, .aload_n 0, 1, 0, 0, 0, 0, [], none, []),
  (38, .invokevirtual 55, 3, 8, 0, 0, 0, [], some m_Tp_readBlank, [614, 616, 10, 68, 617]),
  (41, .aload_n 1, 1, 0, 0, 0, 0, [], none, []),
  (42, .aload_n 0, 1, 0, 0, 0, 0, [], none, []),
  (43, .ldc 68, 2, 3, 0, 0, 0, [], some m_Jstr_length, []),
  (45, .invokevirtual 51, 3, 8, 1, 0, 0, [], some m_Tp_readWord, [551, 553, 7, 68, 554]),
  (48, .iconst 1, 1, 0, 0, 1, 0, [], none, []),
  (49, .if_icmp .ne 7, 3, 56, 0, 0, 0, [], none, []),
  (52, .iconst 1, 1, 0, 0, 1, 0, [], none, []),
  (53, .goto 4, 3, 57, 0, 0, 0, [], none, []),
  (56, .iconst 0, 1, 0, 0, 0, 0, [], none, []),
  (57, .putfield 70, 3, 4, 2, 1, 0, [], none, [178]),
  (60, .return_, 1, 0, 0, 0, 0, [], none, [])]
theorem k_Tp_readHead : zOK m_Tp_readHead P_Tp_readHead := (by decide +kernel : P_Tp_readHead.all (zchk m_Tp_readHead.1.cls m_Tp_readHead.2.1) = true)

def P_Tp_readTests : List zEn := [
  (0, .aload_n 0, 1, 0, 0, 0, 0, [], none, []),
  (1, .invokevirtual 55, 3, 8, 0, 0, 0, [], some m_Tp_readBlank, [614, 616, 10, 68, 617]),
  (4, .aload_n 0, 1, 0, 0, 0, 0, [], none, []),
  (5, .ldc 73, 2, 4, 0, 0, 0, [], some m_Jstr_length, []),
  (7, .invokevirtual 51, 3, 8, 1, 0, 0, [], some m_Tp_readWord, [551, 553, 7, 68, 554]),
  (10, .pop, 1, 0, 0, 0, 0, [], none, []),
  (11, .aload_n 0, 1, 0, 0, 0, 0, [], none, []),
  (12, .invokevirtual 55, 3, 8, 0, 0, 0, [], some m_Tp_readBlank, [614, 616, 10, 68, 617]),
  (15, .aload_n 0, 1, 0, 0, 0, 0, [], none, []),
  (16, .aload_n 1, 1, 0, 0, 0, 0, [], none, []),
  (17, .iconst 0, 1, 0, 0, 0, 0, [], none, []),
  (18, .invokevirtual 75, 3, 8, 2, 0, 0, [], some m_Tp_readTest, [630, 632, 13, 68, 633]),
  (21, .iconst 1, 1, 0, 0, 1, 0, [], none, []),
  (22, .istore_n 2, 1, 0, 0, 0, 0, [], none, []),
  (23, .iload_n 2, 1, 0, 0, 0, 0, [], none, []),
  (24, .iconst 4, 1, 0, 0, 4, 0, [], none, []),
  (25, .if_icmp .ge 76, 3, 101, 0, 0, 0, [], none, []),
  (28, .aload_n 0, 1, 0, 0, 0, 0, [], none, []),
  (29, .invokevirtual 38, 3, 8, 0, 0, 0, [], some m_Tp_hasMore, [621, 623, 11, 68, 624]),
  (32, .ifCond .eq 69, 3, 101, 0, 0, 0, [], none, []),
  (35, .aload_n 0, 1, 0, 0, 0, 0, [], none, []),
  (36, .invokevirtual 55, 3, 8, 0, 0, 0, [], some m_Tp_readBlank, [614, 616, 10, 68, 617]),
  (39, .iload_n 2, 1, 0, 0, 0, 0, [], none, []),
  (40, .iconst 1, 1, 0, 0, 1, 0, [], none, []),
  (41, .if_icmp .ne 25, 3, 66, 0, 0, 0, [], none, []),
  (44, .aload_n 1, 1, 0, 0, 0, 0, [], none, []),
  (45, .aload_n 0, 1, 0, 0, 0, 0, [], none, []),
  (46, .ldc 79, 2, 10, 0, 0, 0, [], some m_Jstr_length, []),
  (48, .invokevirtual 51, 3, 8, 1, 0, 0, [], some m_Tp_readWord, [551, 553, 7, 68, 554]),
  (51, .iconst 1, 1, 0, 0, 1, 0, [], none, []),
  (52, .if_icmp .ne 7, 3, 59, 0, 0, 0, [], none, []),
  (55, .iconst 1, 1, 0, 0, 1, 0, [], none, []),
  (56, .goto 4, 3, 60, 0, 0, 0, [], none, []),
  (59, .iconst 0, 1, 0, 0, 0, 0, [], none, []),
  (60, .putfield 30, 3, 4, 3, 1, 0, [], none, [179]),
  (63, .goto 22, 3, 85, 0, 0, 0, [], none, []),
  (66, .aload_n 0, 1, 0, 0, 0, 0, [], none, []),
  (67, .aload_n 1, 1, 0, 0, 0, 0, [], none, []),
  (68, .getfield 30, 3, 4, 3, 0, 0, [], none, [179]),
  (71, .ifCond .eq 8, 3, 79, 0, 0, 0, [], none, []),
  (74, .ldc 81, 2, 11, 0, 0, 0, [], some m_Jstr_length, []),
  (76, .goto 5, 3, 81, 0, 0, 0, [], none, []),
  (79, .ldc 83, 2, 12, 0, 0, 0, [], some m_Jstr_length, []),
  (81, .invokevirtual 51, 3, 8, 1, 0, 0, [], some m_Tp_readWord, [551, 553, 7, 68, 554]),
  (84, .pop, 1, 0, 0, 0, 0, [], none, []),
  (85, .aload_n 0, 1, 0, 0, 0, 0, [], none, []),
  (86, .invokevirtual 55, 3, 8, 0, 0, 0, [], some m_Tp_readBlank, [614, 616, 10, 68, 617]),
  (89, .aload_n 0, 1, 0, 0, 0, 0, [], none, []),
  (90, .aload_n 1, 1, 0, 0, 0, 0, [], none, []),
  (91, .iload_n 2, 1, 0, 0, 0, 0, [], none, []),
  (92, .invokevirtual 75, 3, 8, 2, 0, 0, [], some m_Tp_readTest, [630, 632, 13, 68, 633]),
  (95, .iinc 2 1, 3, 0, 0, 1, 0, [], none, []),
  (98, .goto (-75), 3, 23, 0, 0, 0, [], none, []),
  (101, .return_, 1, 0, 0, 0, 0, [], none, [])]
theorem k_Tp_readTests : zOK m_Tp_readTests P_Tp_readTests := (by decide +kernel : P_Tp_readTests.all (zchk m_Tp_readTests.1.cls m_Tp_readTests.2.1) = true)

def P_Tp_readTest : List zEn := [
  (0, .aload_n 0, 1, 0, 0, 0, 0, [], none, []),
  (1, .ldc 85, 2, 5, 0, 0, 0, [], some m_Jstr_length, []),
  (3, .invokevirtual 51, 3, 8, 1, 0, 0, [], some m_Tp_readWord, [551, 553, 7, 68, 554]),
  (6, .istore_n 3, 1, 0, 0, 0, 0, [], none, []),
  (7, .aload_n 1, 1, 0, 0, 0, 0, [], none, []),
  (8, .getfield 87, 3, 4, 7, 0, 0, [], none, [188]),
  (11, .iload_n 2, 1, 0, 0, 0, 0, [], none, []),
  (12, .iload_n 3, 1, 0, 0, 0, 0, [], none, []),
  (13, .iconst 2, 1, 0, 0, 2, 0, [], none, []),
  (14, .if_icmp .ne 7, 3, 21, 0, 0, 0, [], none, []),
  (17, .iconst 1, 1, 0, 0, 1, 0, [], none, []),
  (18, .goto 4, 3, 22, 0, 0, 0, [], none, []),
  (21, .iconst 0, 1, 0, 0, 0, 0, [], none, []),
  (22, .bastore, 1, 0, 0, 0, 0, [], none, []),
  (23, .aload_n 1, 1, 0, 0, 0, 0, [], none, []),
  (24, .getfield 87, 3, 4, 7, 0, 0, [], none, [188]),
  (27, .iload_n 2, 1, 0, 0, 0, 0, [], none, []),
  (28, .baload, 1, 0, 0, 0, 0, [], none, []),
  (29, .ifCond .eq 14, 3, 43, 0, 0, 0, [], none, []),
  (32, .aload_n 0, 1, 0, 0, 0, 0, [], none, []),
  (33, .invokevirtual 55, 3, 8, 0, 0, 0, [], some m_Tp_readBlank, [614, 616, 10, 68, 617]),
  (36, .aload_n 0, 1, 0, 0, 0, 0, [], none, []),
  (37, .ldc 91, 2, 6, 0, 0, 0, [], some m_Jstr_length, []),
  (39, .invokevirtual 51, 3, 8, 1, 0, 0, [], some m_Tp_readWord, [551, 553, 7, 68, 554]),
  (42, .istore_n 3, 1, 0, 0, 0, 0, [], none, []),
  (43, .aload_n 1, 1, 0, 0, 0, 0, [], none, []),
  (44, .getfield 93, 3, 4, 8, 0, 0, [], none, [190]),
  (47, .iload_n 2, 1, 0, 0, 0, 0, [], none, []),
  (48, .iload_n 3, 1, 0, 0, 0, 0, [], none, []),
  (49, .iconst 1, 1, 0, 0, 1, 0, [], none, []),
  (50, .if_icmp .ne 7, 3, 57, 0, 0, 0, [], none, []),
  (53, .iconst 1, 1, 0, 0, 1, 0, [], none, []),
  (54, .goto 4, 3, 58, 0, 0, 0, [], none, []),
  (57, .iconst 0, 1, 0, 0, 0, 0, [], none, []),
  (58, .bastore, 1, 0, 0, 0, 0, [], none, []),
  (59, .aload_n 0, 1, 0, 0, 0, 0, [], none, []),
  (60, .ldc 96, 2, 7, 0, 0, 0, [], some m_Jstr_length, []),
  (62, .invokevirtual 51, 3, 8, 1, 0, 0, [], some m_Tp_readWord, [551, 553, 7, 68, 554]),
  (65, .pop, 1, 0, 0, 0, 0, [], none, []),
  (66, .aload_n 1, 1, 0, 0, 0, 0, [], none, []),
  (67, .getfield 98, 3, 4, 9, 0, 0, [], none, [192]),
  (70, .iload_n 2, 1, 0, 0, 0, 0, [], none, []),
  (71, .aload_n 0, 1, 0, 0, 0, 0, [], none, []),
  (72, .ldc 101, 2, 8, 0, 0, 0, [], some m_Jstr_length, []),
  (74, .invokevirtual 51, 3, 8, 1, 0, 0, [], some m_Tp_readWord, [551, 553, 7, 68, 554]),
  (77, .iastore, 1, 0, 0, 0, 0, [], none, []),
  (78, .aload_n 1, 1, 0, 0, 0, 0, [], none, []),
  (79, .getfield 103, 3, 4, 10, 0, 0, [], none, [194]),
  (82, .iload_n 2, 1, 0, 0, 0, 0, [], none, []),
  (83, .aload_n 0, 1, 0, 0, 0, 0, [], none, []),
  (84, .ldc 106, 2, 9, 0, 0, 0, [], some m_Jstr_length, []),
  (86, .invokevirtual 51, 3, 8, 1, 0, 0, [], some m_Tp_readWord, [551, 553, 7, 68, 554]),
  (89, .iastore, 1, 0, 0, 0, 0, [], none, []),
  (90, .aload_n 1, 1, 0, 0, 0, 0, [], none, []),
  (91, .getfield 108, 3, 4, 11, 0, 0, [], none, [196]),
  (94, .iload_n 2, 1, 0, 0, 0, 0, [], none, []),
  (95, .aload_n 0, 1, 0, 0, 0, 0, [], none, []),
  (96, .invokevirtual 111, 3, 8, 0, 0, 0, [], some m_Tp_readNumber, [639, 641, 14, 68, 642]),
  (99, .iastore, 1, 0, 0, 0, 0, [], none, []),
  (100, .aload_n 1, 1, 0, 0, 0, 0, [], none, []),
  (101, .iload_n 2, 1, 0, 0, 0, 0, [], none, []),
  (102, .iconst 1, 1, 0, 0, 1, 0, [], none, []),
  (103, .iadd, 1, 0, 0, 0, 0, [], none, []),
  (104, .putfield 25, 3, 4, 4, 0, 0, [], none, [182]),
  (107, .return_, 1, 0, 0, 0, 0, [], none, [])]
theorem k_Tp_readTest : zOK m_Tp_readTest P_Tp_readTest := (by decide +kernel : P_Tp_readTest.all (zchk m_Tp_readTest.1.cls m_Tp_readTest.2.1) = true)

def P_Tp_readWord : List zEn := [
  (0, .aload_n 0, 1, 0, 0, 0, 0, [], none, []),
  (1, .getfield 22, 3, 8, 3, 0, 0, [], none, [149]),
  (4, .iconst (-1), 1, 0, 0, -1, 0, [], none, []),
  (5, .if_icmp .eq 5, 3, 10, 0, 0, 0, [], none, []),
  (8, .iconst (-1), 1, 0, 0, -1, 0, [], none, []),
  (9, .ireturn, 1, 0, 0, 0, 0, [], none, []),
  (10, .iconst 0, 1, 0, 0, 0, 0, [], none, []),
  (11, .istore_n 2, 1, 0, 0, 0, 0, [], none, []),
  (12, .iconst 0, 1, 0, 0, 0, 0, [], none, []),
  (13, .istore_n 3, 1, 0, 0, 0, 0, [], none, []),
  (14, .iconst 0, 1, 0, 0, 0, 0, [], none, []),
  (15, .istore 4, 2, 0, 0, 0, 0, [], none, []),
  (17, .iconst 1, 1, 0, 0, 1, 0, [], none, []),
  (18, .istore 5, 2, 0, 0, 0, 0, [], none, []),
  (20, .iconst 0, 1, 0, 0, 0, 0, [], none, []),
  (21, .istore 6, 2, 0, 0, 0, 0, [], none, []),
  (23, .iload 6, 2, 0, 0, 0, 0, [], none, []),
  (25, .aload_n 1, 1, 0, 0, 0, 0, [], none, []),
  (26, .invokevirtual 115, 3, 50, 0, 0, 0, [], some m_Jstr_length, [555, 556, 557, 78, 558]),
  (29, .if_icmp .gt 115, 3, 144, 0, 0, 0, [], none, []),
  (32, .iload 6, 2, 0, 0, 0, 0, [], none, []),
  (34, .aload_n 1, 1, 0, 0, 0, 0, [], none, []),
  (35, .invokevirtual 115, 3, 50, 0, 0, 0, [], some m_Jstr_length, [555, 556, 557, 78, 558]),
  (38, .if_icmp .eq 14, 3, 52, 0, 0, 0, [], none, []),
  (41, .aload_n 1, 1, 0, 0, 0, 0, [], none, []),
  (42, .iload 6, 2, 0, 0, 0, 0, [], none, []),
  (44, .invokevirtual 119, 3, 50, 1, 0, 0, [], some m_Jstr_charAt, [565, 566, 567, 78, 568]),
  (47, .bipush 32, 2, 0, 0, 32, 0, [], none, []),
  (49, .if_icmp .ne 7, 3, 56, 0, 0, 0, [], none, []),
  (52, .iconst 1, 1, 0, 0, 1, 0, [], none, []),
  (53, .goto 4, 3, 57, 0, 0, 0, [], none, []),
  (56, .iconst 0, 1, 0, 0, 0, 0, [], none, []),
  (57, .istore 7, 2, 0, 0, 0, 0, [], none, []),
  (59, .iload 7, 2, 0, 0, 0, 0, [], none, []),
  (61, .ifCond .eq 20, 3, 81, 0, 0, 0, [], none, []),
  (64, .iload 5, 2, 0, 0, 0, 0, [], none, []),
  (66, .ifCond .eq 15, 3, 81, 0, 0, 0, [], none, []),
  (69, .aload_n 0, 1, 0, 0, 0, 0, [], none, []),
  (70, .dup, 1, 0, 0, 0, 0, [], none, []),
  (71, .getfield 19, 3, 8, 2, 0, 0, [], none, [148]),
  (74, .iload_n 3, 1, 0, 0, 0, 0, [], none, []),
  (75, .iadd, 1, 0, 0, 0, 0, [], none, []),
  (76, .putfield 19, 3, 8, 2, 0, 0, [], none, [148]),
  (79, .iload_n 2, 1, 0, 0, 0, 0, [], none, []),
  (80, .ireturn, 1, 0, 0, 0, 0, [], none, []),
  (81, .iload 7, 2, 0, 0, 0, 0, [], none, []),
  (83, .ifCond .eq 14, 3, 97, 0, 0, 0, [], none, []),
  (86, .iinc 2 1, 3, 0, 0, 1, 0, [], none, []),
  (89, .iconst 0, 1, 0, 0, 0, 0, [], none, []),
  (90, .istore_n 3, 1, 0, 0, 0, 0, [], none, []),
  (91, .iconst 1, 1, 0, 0, 1, 0, [], none, []),
  (92, .istore 5, 2, 0, 0, 0, 0, [], none, []),
  (94, .goto 44, 3, 138, 0, 0, 0, [], none, []),
  (97, .iload 5, 2, 0, 0, 0, 0, [], none, []),
  (99, .ifCond .eq 36, 3, 135, 0, 0, 0, [], none, []),
  (102, .aload_n 0, 1, 0, 0, 0, 0, [], none, []),
  (103, .aload_n 0, 1, 0, 0, 0, 0, [], none, []),
  (104, .getfield 19, 3, 8, 2, 0, 0, [], none, [148]),
  (107, .iload_n 3, 1, 0, 0, 0, 0, [], none, []),
  (108, .iadd, 1, 0, 0, 0, 0, [], none, []),
  (109, .invokevirtual 123, 3, 8, 1, 0, 0, [], some m_Tp_byteAt, [603, 605, 8, 68, 606]),
  (112, .aload_n 1, 1, 0, 0, 0, 0, [], none, []),
  (113, .iload 6, 2, 0, 0, 0, 0, [], none, []),
  (115, .invokevirtual 119, 3, 50, 1, 0, 0, [], some m_Jstr_charAt, [565, 566, 567, 78, 568]),
  (118, .if_icmp .ne 17, 3, 135, 0, 0, 0, [], none, []),
  (121, .iinc 3 1, 3, 0, 0, 1, 0, [], none, []),
  (124, .iload 4, 2, 0, 0, 0, 0, [], none, []),
  (126, .iload_n 3, 1, 0, 0, 0, 0, [], none, []),
  (127, .invokestatic 127, 3, 0, 2, 0, 0, [], some m_Jmath_max, [607, 608, 77, 609]),
  (130, .istore 4, 2, 0, 0, 0, 0, [], none, []),
  (132, .goto 6, 3, 138, 0, 0, 0, [], none, []),
  (135, .iconst 0, 1, 0, 0, 0, 0, [], none, []),
  (136, .istore 5, 2, 0, 0, 0, 0, [], none, []),
  (138, .iinc 6 1, 3, 0, 0, 1, 0, [], none, []),
  (141, .goto (-118), 3, 23, 0, 0, 0, [], none, []),
  (144, .aload_n 0, 1, 0, 0, 0, 0, [], none, []),
  (145, .aload_n 0, 1, 0, 0, 0, 0, [], none, []),
  (146, .getfield 19, 3, 8, 2, 0, 0, [], none, [148]),
  (149, .iload 4, 2, 0, 0, 0, 0, [], none, []),
  (151, .iadd, 1, 0, 0, 0, 0, [], none, []),
  (152, .invokevirtual 45, 3, 8, 1, 0, 0, [], some m_Tp_fail, [610, 612, 9, 68, 613]),
  (155, .iconst (-1), 1, 0, 0, -1, 0, [], none, []),
  (156, .ireturn, 1, 0, 0, 0, 0, [], none, [])]
theorem k_Tp_readWord : zOK m_Tp_readWord P_Tp_readWord := (by decide +kernel : P_Tp_readWord.all (zchk m_Tp_readWord.1.cls m_Tp_readWord.2.1) = true)

def P_Tp_readBlank : List zEn := [
  (0, .aload_n 0, 1, 0, 0, 0, 0, [], none, []),
  (1, .getfield 22, 3, 8, 3, 0, 0, [], none, [149]),
  (4, .iconst (-1), 1, 0, 0, -1, 0, [], none, []),
  (5, .if_icmp .ne 29, 3, 34, 0, 0, 0, [], none, []),
  (8, .aload_n 0, 1, 0, 0, 0, 0, [], none, []),
  (9, .aload_n 0, 1, 0, 0, 0, 0, [], none, []),
  (10, .getfield 19, 3, 8, 2, 0, 0, [], none, [148]),
  (13, .invokevirtual 123, 3, 8, 1, 0, 0, [], some m_Tp_byteAt, [603, 605, 8, 68, 606]),
  (16, .bipush 32, 2, 0, 0, 32, 0, [], none, []),
  (18, .if_icmp .ne 16, 3, 34, 0, 0, 0, [], none, []),
  (21, .aload_n 0, 1, 0, 0, 0, 0, [], none, []),
  (22, .dup, 1, 0, 0, 0, 0, [], none, []),
  (23, .getfield 19, 3, 8, 2, 0, 0, [], none, [148]),
  (26, .iconst 1, 1, 0, 0, 1, 0, [], none, []),
  (27, .iadd, 1, 0, 0, 0, 0, [], none, []),
  (28, .putfield 19, 3, 8, 2, 0, 0, [], none, [148]),
  (31, .goto 11, 3, 42, 0, 0, 0, [], none, []),
  (34, .aload_n 0, 1, 0, 0, 0, 0, [], none, []),
  (35, .aload_n 0, 1, 0, 0, 0, 0, [], none, []),
  (36, .getfield 19, 3, 8, 2, 0, 0, [], none, [148]),
  (39, .invokevirtual 45, 3, 8, 1, 0, 0, [], some m_Tp_fail, [610, 612, 9, 68, 613]),
  (42, .return_, 1, 0, 0, 0, 0, [], none, [])]
theorem k_Tp_readBlank : zOK m_Tp_readBlank P_Tp_readBlank := (by decide +kernel : P_Tp_readBlank.all (zchk m_Tp_readBlank.1.cls m_Tp_readBlank.2.1) = true)

def P_Tp_readNumber : List zEn := [
  (0, .iconst 0, 1, 0, 0, 0, 0, [], none, []),
  (1, .istore_n 1, 1, 0, 0, 0, 0, [], none, []),
  (2, .iconst 0, 1, 0, 0, 0, 0, [], none, []),
  (3, .istore_n 2, 1, 0, 0, 0, 0, [], none, []),
  (4, .aload_n 0, 1, 0, 0, 0, 0, [], none, []),
  (5, .getfield 22, 3, 8, 3, 0, 0, [], none, [149]),
  (8, .iconst (-1), 1, 0, 0, -1, 0, [], none, []),
  (9, .if_icmp .ne 56, 3, 65, 0, 0, 0, [], none, []),
  (12, .iload_n 2, 1, 0, 0, 0, 0, [], none, []),
  (13, .bipush 8, 2, 0, 0, 8, 0, [], none, []),
  (15, .if_icmp .ge 50, 3, 65, 0, 0, 0, [], none, []),
  (18, .aload_n 0, 1, 0, 0, 0, 0, [], none, []),
  (19, .aload_n 0, 1, 0, 0, 0, 0, [], none, []),
  (20, .getfield 19, 3, 8, 2, 0, 0, [], none, [148]),
  (23, .invokevirtual 123, 3, 8, 1, 0, 0, [], some m_Tp_byteAt, [603, 605, 8, 68, 606]),
  (26, .invokestatic 133, 3, 0, 1, 0, 0, [], some m_Tp_isDigit, [643, 644, 68, 645]),
  (29, .ifCond .eq 36, 3, 65, 0, 0, 0, [], none, []),
  (32, .bipush 10, 2, 0, 0, 10, 0, [], none, []),
  (34, .iload_n 1, 1, 0, 0, 0, 0, [], none, []),
  (35, .imul, 1, 0, 0, 0, 0, [], none, []),
  (36, .aload_n 0, 1, 0, 0, 0, 0, [], none, []),
  (37, .aload_n 0, 1, 0, 0, 0, 0, [], none, []),
  (38, .getfield 19, 3, 8, 2, 0, 0, [], none, [148]),
  (41, .invokevirtual 123, 3, 8, 1, 0, 0, [], some m_Tp_byteAt, [603, 605, 8, 68, 606]),
  (44, .iadd, 1, 0, 0, 0, 0, [], none, []),
  (45, .bipush 48, 2, 0, 0, 48, 0, [], none, []),
  (47, .isub, 1, 0, 0, 0, 0, [], none, []),
  (48, .istore_n 1, 1, 0, 0, 0, 0, [], none, []),
  (49, .iinc 2 1, 3, 0, 0, 1, 0, [], none, []),
  (52, .aload_n 0, 1, 0, 0, 0, 0, [], none, []),
  (53, .dup, 1, 0, 0, 0, 0, [], none, []),
  (54, .getfield 19, 3, 8, 2, 0, 0, [], none, [148]),
  (57, .iconst 1, 1, 0, 0, 1, 0, [], none, []),
  (58, .iadd, 1, 0, 0, 0, 0, [], none, []),
  (59, .putfield 19, 3, 8, 2, 0, 0, [], none, [148]),
  (62, .goto (-58), 3, 4, 0, 0, 0, [], none, []),
  (65, .iload_n 2, 1, 0, 0, 0, 0, [], none, []),
  (66, .ifCond .ne 11, 3, 77, 0, 0, 0, [], none, []),
  (69, .aload_n 0, 1, 0, 0, 0, 0, [], none, []),
  (70, .aload_n 0, 1, 0, 0, 0, 0, [], none, []),
  (71, .getfield 19, 3, 8, 2, 0, 0, [], none, [148]),
  (74, .invokevirtual 45, 3, 8, 1, 0, 0, [], some m_Tp_fail, [610, 612, 9, 68, 613]),
  (77, .iload_n 1, 1, 0, 0, 0, 0, [], none, []),
  (78, .ireturn, 1, 0, 0, 0, 0, [], none, [])]
theorem k_Tp_readNumber : zOK m_Tp_readNumber P_Tp_readNumber := (by decide +kernel : P_Tp_readNumber.all (zchk m_Tp_readNumber.1.cls m_Tp_readNumber.2.1) = true)

def P_Tp_isDigit : List zEn := [
  (0, .iload_n 0, 1, 0, 0, 0, 0, [], none, []),
  (1, .bipush 48, 2, 0, 0, 48, 0, [], none, []),
  (3, .if_icmp .lt 13, 3, 16, 0, 0, 0, [], none, []),
  (6, .iload_n 0, 1, 0, 0, 0, 0, [], none, []),
  (7, .bipush 57, 2, 0, 0, 57, 0, [], none, []),
  (9, .if_icmp .gt 7, 3, 16, 0, 0, 0, [], none, []),
  (12, .iconst 1, 1, 0, 0, 1, 0, [], none, []),
  (13, .goto 4, 3, 17, 0, 0, 0, [], none, []),
  (16, .iconst 0, 1, 0, 0, 0, 0, [], none, []),
  (17, .ireturn, 1, 0, 0, 0, 0, [], none, [])]
theorem k_Tp_isDigit : zOK m_Tp_isDigit P_Tp_isDigit := (by decide +kernel : P_Tp_isDigit.all (zchk m_Tp_isDigit.1.cls m_Tp_isDigit.2.1) = true)

def P_Tp_byteAt : List zEn := [
  (0, .iload_n 1, 1, 0, 0, 0, 0, [], none, []),
  (1, .ifCond .lt 20, 3, 21, 0, 0, 0, [], none, []),
  (4, .iload_n 1, 1, 0, 0, 0, 0, [], none, []),
  (5, .aload_n 0, 1, 0, 0, 0, 0, [], none, []),
  (6, .getfield 15, 3, 8, 0, 0, 0, [], none, [145]),
  (9, .if_icmp .ge 12, 3, 21, 0, 0, 0, [], none, []),
  (12, .aload_n 0, 1, 0, 0, 0, 0, [], none, []),
  (13, .getfield 11, 3, 8, 1, 0, 0, [], none, [147]),
  (16, .iload_n 1, 1, 0, 0, 0, 0, [], none, []),
  (17, .iaload, 1, 0, 0, 0, 0, [], none, []),
  (18, .goto 4, 3, 22, 0, 0, 0, [], none, []),
  (21, .iconst (-1), 1, 0, 0, -1, 0, [], none, []),
  (22, .ireturn, 1, 0, 0, 0, 0, [], none, [])]
theorem k_Tp_byteAt : zOK m_Tp_byteAt P_Tp_byteAt := (by decide +kernel : P_Tp_byteAt.all (zchk m_Tp_byteAt.1.cls m_Tp_byteAt.2.1) = true)

def P_Tp_hasMore : List zEn := [
  (0, .aload_n 0, 1, 0, 0, 0, 0, [], none, []),
  (1, .getfield 22, 3, 8, 3, 0, 0, [], none, [149]),
  (4, .iconst (-1), 1, 0, 0, -1, 0, [], none, []),
  (5, .if_icmp .ne 18, 3, 23, 0, 0, 0, [], none, []),
  (8, .aload_n 0, 1, 0, 0, 0, 0, [], none, []),
  (9, .getfield 19, 3, 8, 2, 0, 0, [], none, [148]),
  (12, .aload_n 0, 1, 0, 0, 0, 0, [], none, []),
  (13, .getfield 15, 3, 8, 0, 0, 0, [], none, [145]),
  (16, .if_icmp .ge 7, 3, 23, 0, 0, 0, [], none, []),
  (19, .iconst 1, 1, 0, 0, 1, 0, [], none, []),
  (20, .goto 4, 3, 24, 0, 0, 0, [], none, []),
  (23, .iconst 0, 1, 0, 0, 0, 0, [], none, []),
  (24, .ireturn, 1, 0, 0, 0, 0, [], none, [])]
theorem k_Tp_hasMore : zOK m_Tp_hasMore P_Tp_hasMore := (by decide +kernel : P_Tp_hasMore.all (zchk m_Tp_hasMore.1.cls m_Tp_hasMore.2.1) = true)

def P_Tp_fail : List zEn := [
  (0, .aload_n 0, 1, 0, 0, 0, 0, [], none, []),
  (1, .getfield 22, 3, 8, 3, 0, 0, [], none, [149]),
  (4, .iconst (-1), 1, 0, 0, -1, 0, [], none, []),
  (5, .if_icmp .ne 8, 3, 13, 0, 0, 0, [], none, []),
  (8, .aload_n 0, 1, 0, 0, 0, 0, [], none, []),
  (9, .iload_n 1, 1, 0, 0, 0, 0, [], none, []),
  (10, .putfield 22, 3, 8, 3, 0, 0, [], none, [149]),
  (13, .return_, 1, 0, 0, 0, 0, [], none, [])]
theorem k_Tp_fail : zOK m_Tp_fail P_Tp_fail := (by decide +kernel : P_Tp_fail.all (zchk m_Tp_fail.1.cls m_Tp_fail.2.1) = true)

def P_Jint_bitCount : List zEn := [
  (0, .iload_n 0, 1, 0, 0, 0, 0, [], none, []),
  (1, .iload_n 0, 1, 0, 0, 0, 0, [], none, []),
  (2, .iconst 1, 1, 0, 0, 1, 0, [], none, []),
  (3, .iushr, 1, 0, 0, 0, 0, [], none, []),
  (4, .ldc_w 265, 3, 0, 0, 1431655765, 0, [], none, [902]),
  (7, .iand, 1, 0, 0, 0, 0, [], none, []),
  (8, .isub, 1, 0, 0, 0, 0, [], none, []),
  (9, .istore_n 0, 1, 0, 0, 0, 0, [], none, []),
  (10, .iload_n 0, 1, 0, 0, 0, 0, [], none, []),
  (11, .ldc_w 266, 3, 0, 0, 858993459, 0, [], none, [903]),
  (14, .iand, 1, 0, 0, 0, 0, [], none, []),
  (15, .iload_n 0, 1, 0, 0, 0, 0, [], none, []),
  (16, .iconst 2, 1, 0, 0, 2, 0, [], none, []),
  (17, .iushr, 1, 0, 0, 0, 0, [], none, []),
  (18, .ldc_w 266, 3, 0, 0, 858993459, 0, [], none, [903]),
  (21, .iand, 1, 0, 0, 0, 0, [], none, []),
  (22, .iadd, 1, 0, 0, 0, 0, [], none, []),
  (23, .istore_n 0, 1, 0, 0, 0, 0, [], none, []),
  (24, .iload_n 0, 1, 0, 0, 0, 0, [], none, []),
  (25, .iload_n 0, 1, 0, 0, 0, 0, [], none, []),
  (26, .iconst 4, 1, 0, 0, 4, 0, [], none, []),
  (27, .iushr, 1, 0, 0, 0, 0, [], none, []),
  (28, .iadd, 1, 0, 0, 0, 0, [], none, []),
  (29, .ldc_w 267, 3, 0, 0, 252645135, 0, [], none, [904]),
  (32, .iand, 1, 0, 0, 0, 0, [], none, []),
  (33, .istore_n 0, 1, 0, 0, 0, 0, [], none, []),
  (34, .iload_n 0, 1, 0, 0, 0, 0, [], none, []),
  (35, .iload_n 0, 1, 0, 0, 0, 0, [], none, []),
  (36, .bipush 8, 2, 0, 0, 8, 0, [], none, []),
  (38, .iushr, 1, 0, 0, 0, 0, [], none, []),
  (39, .iadd, 1, 0, 0, 0, 0, [], none, []),
  (40, .istore_n 0, 1, 0, 0, 0, 0, [], none, []),
  (41, .iload_n 0, 1, 0, 0, 0, 0, [], none, []),
  (42, .iload_n 0, 1, 0, 0, 0, 0, [], none, []),
  (43, .bipush 16, 2, 0, 0, 16, 0, [], none, []),
  (45, .iushr, 1, 0, 0, 0, 0, [], none, []),
  (46, .iadd, 1, 0, 0, 0, 0, [], none, []),
  (47, .istore_n 0, 1, 0, 0, 0, 0, [], none, []),
  (48, .iload_n 0, 1, 0, 0, 0, 0, [], none, []),
  (49, .bipush 63, 2, 0, 0, 63, 0, [], none, []),
  (51, .iand, 1, 0, 0, 0, 0, [], none, []),
  (52, .ireturn, 1, 0, 0, 0, 0, [], none, [])]
theorem k_Jint_bitCount : zOK m_Jint_bitCount P_Jint_bitCount := (by decide +kernel : P_Jint_bitCount.all (zchk m_Jint_bitCount.1.cls m_Jint_bitCount.2.1) = true)

def P_Jmath_abs : List zEn := [
  (0, .iload_n 0, 1, 0, 0, 0, 0, [], none, []),
  (1, .ifCond .ge 8, 3, 9, 0, 0, 0, [], none, []),
  (4, .iload_n 0, 1, 0, 0, 0, 0, [], none, []),
  (5, .ineg, 1, 0, 0, 0, 0, [], none, []),
  (6, .goto 4, 3, 10, 0, 0, 0, [], none, []),
  (9, .iload_n 0, 1, 0, 0, 0, 0, [], none, []),
  (10, .ireturn, 1, 0, 0, 0, 0, [], none, [])]
theorem k_Jmath_abs : zOK m_Jmath_abs P_Jmath_abs := (by decide +kernel : P_Jmath_abs.all (zchk m_Jmath_abs.1.cls m_Jmath_abs.2.1) = true)

def P_Jmath_max : List zEn := [
  (0, .iload_n 0, 1, 0, 0, 0, 0, [], none, []),
  (1, .iload_n 1, 1, 0, 0, 0, 0, [], none, []),
  (2, .if_icmp .lt 7, 3, 9, 0, 0, 0, [], none, []),
  (5, .iload_n 0, 1, 0, 0, 0, 0, [], none, []),
  (6, .goto 4, 3, 10, 0, 0, 0, [], none, []),
  (9, .iload_n 1, 1, 0, 0, 0, 0, [], none, []),
  (10, .ireturn, 1, 0, 0, 0, 0, [], none, [])]
theorem k_Jmath_max : zOK m_Jmath_max P_Jmath_max := (by decide +kernel : P_Jmath_max.all (zchk m_Jmath_max.1.cls m_Jmath_max.2.1) = true)

def P_Jmath_min : List zEn := [
  (0, .iload_n 0, 1, 0, 0, 0, 0, [], none, []),
  (1, .iload_n 1, 1, 0, 0, 0, 0, [], none, []),
  (2, .if_icmp .gt 7, 3, 9, 0, 0, 0, [], none, []),
  (5, .iload_n 0, 1, 0, 0, 0, 0, [], none, []),
  (6, .goto 4, 3, 10, 0, 0, 0, [], none, []),
  (9, .iload_n 1, 1, 0, 0, 0, 0, [], none, []),
  (10, .ireturn, 1, 0, 0, 0, 0, [], none, [])]
theorem k_Jmath_min : zOK m_Jmath_min P_Jmath_min := (by decide +kernel : P_Jmath_min.all (zchk m_Jmath_min.1.cls m_Jmath_min.2.1) = true)

def P_Jarr_fill : List zEn := [
  (0, .iconst 0, 1, 0, 0, 0, 0, [], none, []),
  (1, .istore_n 2, 1, 0, 0, 0, 0, [], none, []),
  (2, .aload_n 0, 1, 0, 0, 0, 0, [], none, []),
  (3, .arraylength, 1, 0, 0, 0, 0, [], none, []),
  (4, .istore_n 3, 1, 0, 0, 0, 0, [], none, []),
  (5, .iload_n 2, 1, 0, 0, 0, 0, [], none, []),
  (6, .iload_n 3, 1, 0, 0, 0, 0, [], none, []),
  (7, .if_icmp .ge 13, 3, 20, 0, 0, 0, [], none, []),
  (10, .aload_n 0, 1, 0, 0, 0, 0, [], none, []),
  (11, .iload_n 2, 1, 0, 0, 0, 0, [], none, []),
  (12, .iload_n 1, 1, 0, 0, 0, 0, [], none, []),
  (13, .iastore, 1, 0, 0, 0, 0, [], none, []),
  (14, .iinc 2 1, 3, 0, 0, 1, 0, [], none, []),
  (17, .goto (-12), 3, 5, 0, 0, 0, [], none, []),
  (20, .return_, 1, 0, 0, 0, 0, [], none, [])]
theorem k_Jarr_fill : zOK m_Jarr_fill P_Jarr_fill := (by decide +kernel : P_Jarr_fill.all (zchk m_Jarr_fill.1.cls m_Jarr_fill.2.1) = true)
end
section
def P_Ha_hasTable : List zEn := [
  (0, .iload_n 1, 1, 0, 0, 0, 0, [], none, []),
  (1, .ifCond .lt 15, 3, 16, 0, 0, 0, [], none, []),
  (4, .iload_n 1, 1, 0, 0, 0, 0, [], none, []),
  (5, .aload_n 0, 1, 0, 0, 0, 0, [], none, []),
  (6, .getfield 36, 3, 1, 0, 0, 0, [], none, [318]),
  (9, .if_icmp .ge 7, 3, 16, 0, 0, 0, [], none, []),
  (12, .iconst 1, 1, 0, 0, 1, 0, [], none, []),
  (13, .goto 4, 3, 17, 0, 0, 0, [], none, []),
  (16, .iconst 0, 1, 0, 0, 0, 0, [], none, []),
  (17, .ireturn, 1, 0, 0, 0, 0, [], none, [])]
theorem k_Ha_hasTable : zOK m_Ha_hasTable P_Ha_hasTable := (by decide +kernel : P_Ha_hasTable.all (zchk m_Ha_hasTable.1.cls m_Ha_hasTable.2.1) = true)

def P_Ha_hasSeat : List zEn := [
  (0, .aload_n 0, 1, 0, 0, 0, 0, [], none, []),
  (1, .iload_n 1, 1, 0, 0, 0, 0, [], none, []),
  (2, .invokevirtual 40, 3, 1, 1, 0, 0, [], some m_Ha_hasTable, [818, 819, 820, 72, 821]),
  (5, .ifCond .eq 24, 3, 29, 0, 0, 0, [], none, []),
  (8, .iload_n 2, 1, 0, 0, 0, 0, [], none, []),
  (9, .ifCond .lt 20, 3, 29, 0, 0, 0, [], none, []),
  (12, .iload_n 2, 1, 0, 0, 0, 0, [], none, []),
  (13, .aload_n 0, 1, 0, 0, 0, 0, [], none, []),
  (14, .getfield 13, 3, 1, 1, 0, 0, [], none, [320]),
  (17, .iload_n 1, 1, 0, 0, 0, 0, [], none, []),
  (18, .aaload, 1, 0, 0, 0, 0, [], none, []),
  (19, .getfield 44, 3, 7, 0, 0, 0, [], none, [304]),
  (22, .if_icmp .ge 7, 3, 29, 0, 0, 0, [], none, []),
  (25, .iconst 1, 1, 0, 0, 1, 0, [], none, []),
  (26, .goto 4, 3, 30, 0, 0, 0, [], none, []),
  (29, .iconst 0, 1, 0, 0, 0, 0, [], none, []),
  (30, .ireturn, 1, 0, 0, 0, 0, [], none, [])]
theorem k_Ha_hasSeat : zOK m_Ha_hasSeat P_Ha_hasSeat := (by decide +kernel : P_Ha_hasSeat.all (zchk m_Ha_hasSeat.1.cls m_Ha_hasSeat.2.1) = true)

def P_Ha_addTable : List zEn := [
  (0, .aload_n 0, 1, 0, 0, 0, 0, [], none, []),
  (1, .getfield 13, 3, 1, 1, 0, 0, [], none, [320]),
  (4, .aload_n 0, 1, 0, 0, 0, 0, [], none, []),
  (5, .getfield 36, 3, 1, 0, 0, 0, [], none, [318]),
  (8, .aaload, 1, 0, 0, 0, 0, [], none, []),
  (9, .iload_n 1, 1, 0, 0, 0, 0, [], none, []),
  (10, .iload_n 2, 1, 0, 0, 0, 0, [], none, []),
  (11, .invokevirtual 45, 3, 7, 2, 0, 0, [], some m_Tb_open, [788, 789, 790, 73, 791]),
  (14, .aload_n 0, 1, 0, 0, 0, 0, [], none, []),
  (15, .dup, 1, 0, 0, 0, 0, [], none, []),
  (16, .getfield 36, 3, 1, 0, 0, 0, [], none, [318]),
  (19, .iconst 1, 1, 0, 0, 1, 0, [], none, []),
  (20, .iadd, 1, 0, 0, 0, 0, [], none, []),
  (21, .putfield 36, 3, 1, 0, 0, 0, [], none, [318]),
  (24, .aload_n 0, 1, 0, 0, 0, 0, [], none, []),
  (25, .getfield 36, 3, 1, 0, 0, 0, [], none, [318]),
  (28, .iconst 1, 1, 0, 0, 1, 0, [], none, []),
  (29, .isub, 1, 0, 0, 0, 0, [], none, []),
  (30, .ireturn, 1, 0, 0, 0, 0, [], none, [])]
theorem k_Ha_addTable : zOK m_Ha_addTable P_Ha_addTable := (by decide +kernel : P_Ha_addTable.all (zchk m_Ha_addTable.1.cls m_Ha_addTable.2.1) = true)

def P_Ha_setFeud : List zEn := [
  (0, .aload_n 0, 1, 0, 0, 0, 0, [], none, []),
  (1, .getfield 21, 3, 1, 2, 0, 0, [], none, [322]),
  (4, .iload_n 1, 1, 0, 0, 0, 0, [], none, []),
  (5, .aaload, 1, 0, 0, 0, 0, [], none, []),
  (6, .iload_n 2, 1, 0, 0, 0, 0, [], none, []),
  (7, .iaload, 1, 0, 0, 0, 0, [], none, []),
  (8, .istore 4, 2, 0, 0, 0, 0, [], none, []),
  (10, .aload_n 0, 1, 0, 0, 0, 0, [], none, []),
  (11, .getfield 21, 3, 1, 2, 0, 0, [], none, [322]),
  (14, .iload_n 1, 1, 0, 0, 0, 0, [], none, []),
  (15, .aaload, 1, 0, 0, 0, 0, [], none, []),
  (16, .iload_n 2, 1, 0, 0, 0, 0, [], none, []),
  (17, .iload_n 3, 1, 0, 0, 0, 0, [], none, []),
  (18, .iastore, 1, 0, 0, 0, 0, [], none, []),
  (19, .aload_n 0, 1, 0, 0, 0, 0, [], none, []),
  (20, .getfield 21, 3, 1, 2, 0, 0, [], none, [322]),
  (23, .iload_n 2, 1, 0, 0, 0, 0, [], none, []),
  (24, .aaload, 1, 0, 0, 0, 0, [], none, []),
  (25, .iload_n 1, 1, 0, 0, 0, 0, [], none, []),
  (26, .iload_n 3, 1, 0, 0, 0, 0, [], none, []),
  (27, .iastore, 1, 0, 0, 0, 0, [], none, []),
  (28, .iload 4, 2, 0, 0, 0, 0, [], none, []),
  (30, .ireturn, 1, 0, 0, 0, 0, [], none, [])]
theorem k_Ha_setFeud : zOK m_Ha_setFeud P_Ha_setFeud := (by decide +kernel : P_Ha_setFeud.all (zchk m_Ha_setFeud.1.cls m_Ha_setFeud.2.1) = true)

def P_Ha_setCost : List zEn := [
  (0, .aload_n 0, 1, 0, 0, 0, 0, [], none, []),
  (1, .getfield 24, 3, 1, 3, 0, 0, [], none, [323]),
  (4, .iload_n 1, 1, 0, 0, 0, 0, [], none, []),
  (5, .aaload, 1, 0, 0, 0, 0, [], none, []),
  (6, .iload_n 2, 1, 0, 0, 0, 0, [], none, []),
  (7, .iaload, 1, 0, 0, 0, 0, [], none, []),
  (8, .istore 4, 2, 0, 0, 0, 0, [], none, []),
  (10, .aload_n 0, 1, 0, 0, 0, 0, [], none, []),
  (11, .getfield 24, 3, 1, 3, 0, 0, [], none, [323]),
  (14, .iload_n 1, 1, 0, 0, 0, 0, [], none, []),
  (15, .aaload, 1, 0, 0, 0, 0, [], none, []),
  (16, .iload_n 2, 1, 0, 0, 0, 0, [], none, []),
  (17, .iload_n 3, 1, 0, 0, 0, 0, [], none, []),
  (18, .iastore, 1, 0, 0, 0, 0, [], none, []),
  (19, .aload_n 0, 1, 0, 0, 0, 0, [], none, []),
  (20, .getfield 24, 3, 1, 3, 0, 0, [], none, [323]),
  (23, .iload_n 2, 1, 0, 0, 0, 0, [], none, []),
  (24, .aaload, 1, 0, 0, 0, 0, [], none, []),
  (25, .iload_n 1, 1, 0, 0, 0, 0, [], none, []),
  (26, .iload_n 3, 1, 0, 0, 0, 0, [], none, []),
  (27, .iastore, 1, 0, 0, 0, 0, [], none, []),
  (28, .iload 4, 2, 0, 0, 0, 0, [], none, []),
  (30, .ireturn, 1, 0, 0, 0, 0, [], none, [])]
theorem k_Ha_setCost : zOK m_Ha_setCost P_Ha_setCost := (by decide +kernel : P_Ha_setCost.all (zchk m_Ha_setCost.1.cls m_Ha_setCost.2.1) = true)

def P_Ha_emptySeatsOf : List zEn := [
  (0, .iconst 0, 1, 0, 0, 0, 0, [], none, []),
  (1, .istore_n 2, 1, 0, 0, 0, 0, [], none, []),
  (2, .iload_n 2, 1, 0, 0, 0, 0, [], none, []),
  (3, .aload_n 0, 1, 0, 0, 0, 0, [], none, []),
  (4, .getfield 36, 3, 1, 0, 0, 0, [], none, [318]),
  (7, .if_icmp .ge 19, 3, 26, 0, 0, 0, [], none, []),
  (10, .aload_n 0, 1, 0, 0, 0, 0, [], none, []),
  (11, .getfield 13, 3, 1, 1, 0, 0, [], none, [320]),
  (14, .iload_n 2, 1, 0, 0, 0, 0, [], none, []),
  (15, .aaload, 1, 0, 0, 0, 0, [], none, []),
  (16, .iload_n 1, 1, 0, 0, 0, 0, [], none, []),
  (17, .invokevirtual 49, 3, 7, 1, 0, 0, [], some m_Tb_removePerson, [499, 500, 501, 73, 502]),
  (20, .iinc 2 1, 3, 0, 0, 1, 0, [], none, []),
  (23, .goto (-21), 3, 2, 0, 0, 0, [], none, []),
  (26, .return_, 1, 0, 0, 0, 0, [], none, [])]
theorem k_Ha_emptySeatsOf : zOK m_Ha_emptySeatsOf P_Ha_emptySeatsOf := (by decide +kernel : P_Ha_emptySeatsOf.all (zchk m_Ha_emptySeatsOf.1.cls m_Ha_emptySeatsOf.2.1) = true)

def P_Ha_numberPlaces : List zEn := [
  (0, .iconst 0, 1, 0, 0, 0, 0, [], none, []),
  (1, .istore_n 3, 1, 0, 0, 0, 0, [], none, []),
  (2, .iconst 0, 1, 0, 0, 0, 0, [], none, []),
  (3, .istore 4, 2, 0, 0, 0, 0, [], none, []),
  (5, .iload 4, 2, 0, 0, 0, 0, [], none, []),
  (7, .aload_n 1, 1, 0, 0, 0, 0, [], none, []),
  (8, .getfield 53, 3, 2, 0, 0, 0, [], none, [253]),
  (11, .if_icmp .ge 38, 3, 49, 0, 0, 0, [], none, []),
  (14, .aload_n 1, 1, 0, 0, 0, 0, [], none, []),
  (15, .getfield 58, 3, 2, 2, 0, 0, [], none, [258]),
  (18, .iload 4, 2, 0, 0, 0, 0, [], none, []),
  (20, .iaload, 1, 0, 0, 0, 0, [], none, []),
  (21, .istore 5, 2, 0, 0, 0, 0, [], none, []),
  (23, .iload_n 2, 1, 0, 0, 0, 0, [], none, []),
  (24, .iload 5, 2, 0, 0, 0, 0, [], none, []),
  (26, .invokestatic 61, 3, 0, 2, 0, 0, [], some m_Ro_isIn, [844, 516, 67, 517]),
  (29, .ifCond .eq 14, 3, 43, 0, 0, 0, [], none, []),
  (32, .aload_n 0, 1, 0, 0, 0, 0, [], none, []),
  (33, .getfield 27, 3, 1, 4, 0, 0, [], none, [324]),
  (36, .iload 5, 2, 0, 0, 0, 0, [], none, []),
  (38, .iload_n 3, 1, 0, 0, 0, 0, [], none, []),
  (39, .iastore, 1, 0, 0, 0, 0, [], none, []),
  (40, .iinc 3 1, 3, 0, 0, 1, 0, [], none, []),
  (43, .iinc 4 1, 3, 0, 0, 1, 0, [], none, []),
  (46, .goto (-41), 3, 5, 0, 0, 0, [], none, []),
  (49, .return_, 1, 0, 0, 0, 0, [], none, [])]
theorem k_Ha_numberPlaces : zOK m_Ha_numberPlaces P_Ha_numberPlaces := (by decide +kernel : P_Ha_numberPlaces.all (zchk m_Ha_numberPlaces.1.cls m_Ha_numberPlaces.2.1) = true)

def P_Ha_priceOf : List zEn := [
  (0, .aload_n 0, 1, 0, 0, 0, 0, [], none, []),
  (1, .aload_n 2, 1, 0, 0, 0, 0, [], none, []),
  (2, .aload_n 1, 1, 0, 0, 0, 0, [], none, []),
  (3, .invokevirtual 65, 3, 7, 0, 0, 0, [], some m_Tb_sittersAsSet, [836, 837, 838, 73, 839]),
  (6, .invokevirtual 69, 3, 1, 2, 0, 0, [], some m_Ha_numberPlaces, [840, 841, 842, 72, 843]),
  (9, .iconst 0, 1, 0, 0, 0, 0, [], none, []),
  (10, .istore_n 3, 1, 0, 0, 0, 0, [], none, []),
  (11, .iconst 0, 1, 0, 0, 0, 0, [], none, []),
  (12, .istore 4, 2, 0, 0, 0, 0, [], none, []),
  (14, .iload 4, 2, 0, 0, 0, 0, [], none, []),
  (16, .aload_n 1, 1, 0, 0, 0, 0, [], none, []),
  (17, .getfield 44, 3, 7, 0, 0, 0, [], none, [304]),
  (20, .if_icmp .ge 23, 3, 43, 0, 0, 0, [], none, []),
  (23, .iload_n 3, 1, 0, 0, 0, 0, [], none, []),
  (24, .aload_n 0, 1, 0, 0, 0, 0, [], none, []),
  (25, .aload_n 1, 1, 0, 0, 0, 0, [], none, []),
  (26, .aload_n 1, 1, 0, 0, 0, 0, [], none, []),
  (27, .getfield 73, 3, 7, 1, 0, 0, [], none, [308]),
  (30, .iload 4, 2, 0, 0, 0, 0, [], none, []),
  (32, .invokevirtual 76, 3, 1, 3, 0, 0, [], some m_Ha_priceAt, [845, 846, 847, 72, 848]),
  (35, .iadd, 1, 0, 0, 0, 0, [], none, []),
  (36, .istore_n 3, 1, 0, 0, 0, 0, [], none, []),
  (37, .iinc 4 1, 3, 0, 0, 1, 0, [], none, []),
  (40, .goto (-26), 3, 14, 0, 0, 0, [], none, []),
  (43, .iload_n 3, 1, 0, 0, 0, 0, [], none, []),
  (44, .ireturn, 1, 0, 0, 0, 0, [], none, [])]
theorem k_Ha_priceOf : zOK m_Ha_priceOf P_Ha_priceOf := (by decide +kernel : P_Ha_priceOf.all (zchk m_Ha_priceOf.1.cls m_Ha_priceOf.2.1) = true)

def P_Ha_isPeaceful : List zEn := [
  (0, .iconst 0, 1, 0, 0, 0, 0, [], none, []),
  (1, .istore_n 2, 1, 0, 0, 0, 0, [], none, []),
  (2, .iload_n 2, 1, 0, 0, 0, 0, [], none, []),
  (3, .aload_n 1, 1, 0, 0, 0, 0, [], none, []),
  (4, .getfield 44, 3, 7, 0, 0, 0, [], none, [304]),
  (7, .if_icmp .ge 24, 3, 31, 0, 0, 0, [], none, []),
  (10, .aload_n 0, 1, 0, 0, 0, 0, [], none, []),
  (11, .aload_n 1, 1, 0, 0, 0, 0, [], none, []),
  (12, .aload_n 1, 1, 0, 0, 0, 0, [], none, []),
  (13, .getfield 73, 3, 7, 1, 0, 0, [], none, [308]),
  (16, .iload_n 2, 1, 0, 0, 0, 0, [], none, []),
  (17, .invokevirtual 80, 3, 1, 3, 0, 0, [], some m_Ha_isPeacefulAt, [879, 880, 881, 72, 882]),
  (20, .ifCond .ne 5, 3, 25, 0, 0, 0, [], none, []),
  (23, .iconst 0, 1, 0, 0, 0, 0, [], none, []),
  (24, .ireturn, 1, 0, 0, 0, 0, [], none, []),
  (25, .iinc 2 1, 3, 0, 0, 1, 0, [], none, []),
  (28, .goto (-26), 3, 2, 0, 0, 0, [], none, []),
  (31, .iconst 1, 1, 0, 0, 1, 0, [], none, []),
  (32, .ireturn, 1, 0, 0, 0, 0, [], none, [])]
theorem k_Ha_isPeaceful : zOK m_Ha_isPeaceful P_Ha_isPeaceful := (by decide +kernel : P_Ha_isPeaceful.all (zchk m_Ha_isPeaceful.1.cls m_Ha_isPeaceful.2.1) = true)

def P_Ha_priceAt : List zEn := [
  (0, .aload_n 2, 1, 0, 0, 0, 0, [], none, []),
  (1, .iload_n 3, 1, 0, 0, 0, 0, [], none, []),
  (2, .iaload, 1, 0, 0, 0, 0, [], none, []),
  (3, .istore 4, 2, 0, 0, 0, 0, [], none, []),
  (5, .iload 4, 2, 0, 0, 0, 0, [], none, []),
  (7, .iconst (-1), 1, 0, 0, -1, 0, [], none, []),
  (8, .if_icmp .ne 5, 3, 13, 0, 0, 0, [], none, []),
  (11, .iconst 0, 1, 0, 0, 0, 0, [], none, []),
  (12, .ireturn, 1, 0, 0, 0, 0, [], none, []),
  (13, .aload_n 0, 1, 0, 0, 0, 0, [], none, []),
  (14, .getfield 27, 3, 1, 4, 0, 0, [], none, [324]),
  (17, .iload 4, 2, 0, 0, 0, 0, [], none, []),
  (19, .iaload, 1, 0, 0, 0, 0, [], none, []),
  (20, .iload_n 3, 1, 0, 0, 0, 0, [], none, []),
  (21, .isub, 1, 0, 0, 0, 0, [], none, []),
  (22, .invokestatic 84, 3, 0, 1, 0, 0, [], some m_Jmath_abs, [849, 850, 77, 851]),
  (25, .aload_n 0, 1, 0, 0, 0, 0, [], none, []),
  (26, .iload 4, 2, 0, 0, 0, 0, [], none, []),
  (28, .aload_n 2, 1, 0, 0, 0, 0, [], none, []),
  (29, .aload_n 1, 1, 0, 0, 0, 0, [], none, []),
  (30, .iload_n 3, 1, 0, 0, 0, 0, [], none, []),
  (31, .invokevirtual 90, 3, 7, 1, 0, 0, [], some m_Tb_lowerBeside, [852, 853, 854, 73, 855]),
  (34, .invokestatic 93, 3, 0, 2, 0, 0, [], some m_Ha_sitterAt, [856, 857, 72, 858]),
  (37, .invokevirtual 97, 3, 1, 2, 0, 0, [], some m_Ha_talkCost, [859, 861, 26, 72, 862]),
  (40, .iadd, 1, 0, 0, 0, 0, [], none, []),
  (41, .aload_n 0, 1, 0, 0, 0, 0, [], none, []),
  (42, .iload 4, 2, 0, 0, 0, 0, [], none, []),
  (44, .aload_n 2, 1, 0, 0, 0, 0, [], none, []),
  (45, .aload_n 1, 1, 0, 0, 0, 0, [], none, []),
  (46, .iload_n 3, 1, 0, 0, 0, 0, [], none, []),
  (47, .invokevirtual 101, 3, 7, 1, 0, 0, [], some m_Tb_lowerAround, [867, 868, 869, 73, 870]),
  (50, .invokestatic 93, 3, 0, 2, 0, 0, [], some m_Ha_sitterAt, [856, 857, 72, 858]),
  (53, .invokevirtual 97, 3, 1, 2, 0, 0, [], some m_Ha_talkCost, [859, 861, 26, 72, 862]),
  (56, .iadd, 1, 0, 0, 0, 0, [], none, []),
  (57, .ireturn, 1, 0, 0, 0, 0, [], none, [])]
theorem k_Ha_priceAt : zOK m_Ha_priceAt P_Ha_priceAt := (by decide +kernel : P_Ha_priceAt.all (zchk m_Ha_priceAt.1.cls m_Ha_priceAt.2.1) = true)

def P_Ha_isPeacefulAt : List zEn := [
  (0, .aload_n 2, 1, 0, 0, 0, 0, [], none, []),
  (1, .iload_n 3, 1, 0, 0, 0, 0, [], none, []),
  (2, .iaload, 1, 0, 0, 0, 0, [], none, []),
  (3, .istore 4, 2, 0, 0, 0, 0, [], none, []),
  (5, .aload_n 0, 1, 0, 0, 0, 0, [], none, []),
  (6, .iload 4, 2, 0, 0, 0, 0, [], none, []),
  (8, .aload_n 2, 1, 0, 0, 0, 0, [], none, []),
  (9, .aload_n 1, 1, 0, 0, 0, 0, [], none, []),
  (10, .iload_n 3, 1, 0, 0, 0, 0, [], none, []),
  (11, .invokevirtual 90, 3, 7, 1, 0, 0, [], some m_Tb_lowerBeside, [852, 853, 854, 73, 855]),
  (14, .invokestatic 93, 3, 0, 2, 0, 0, [], some m_Ha_sitterAt, [856, 857, 72, 858]),
  (17, .invokevirtual 104, 3, 1, 2, 0, 0, [], some m_Ha_areFeuding, [883, 885, 28, 72, 886]),
  (20, .ifCond .ne 43, 3, 63, 0, 0, 0, [], none, []),
  (23, .aload_n 0, 1, 0, 0, 0, 0, [], none, []),
  (24, .iload 4, 2, 0, 0, 0, 0, [], none, []),
  (26, .aload_n 2, 1, 0, 0, 0, 0, [], none, []),
  (27, .aload_n 1, 1, 0, 0, 0, 0, [], none, []),
  (28, .iload_n 3, 1, 0, 0, 0, 0, [], none, []),
  (29, .invokevirtual 101, 3, 7, 1, 0, 0, [], some m_Tb_lowerAround, [867, 868, 869, 73, 870]),
  (32, .invokestatic 93, 3, 0, 2, 0, 0, [], some m_Ha_sitterAt, [856, 857, 72, 858]),
  (35, .invokevirtual 104, 3, 1, 2, 0, 0, [], some m_Ha_areFeuding, [883, 885, 28, 72, 886]),
  (38, .ifCond .ne 25, 3, 63, 0, 0, 0, [], none, []),
  (41, .aload_n 0, 1, 0, 0, 0, 0, [], none, []),
  (42, .iload 4, 2, 0, 0, 0, 0, [], none, []),
  (44, .aload_n 2, 1, 0, 0, 0, 0, [], none, []),
  (45, .aload_n 1, 1, 0, 0, 0, 0, [], none, []),
  (46, .iload_n 3, 1, 0, 0, 0, 0, [], none, []),
  (47, .invokevirtual 107, 3, 7, 1, 0, 0, [], some m_Tb_lowerFacing, [891, 892, 893, 73, 894]),
  (50, .invokestatic 93, 3, 0, 2, 0, 0, [], some m_Ha_sitterAt, [856, 857, 72, 858]),
  (53, .invokevirtual 104, 3, 1, 2, 0, 0, [], some m_Ha_areFeuding, [883, 885, 28, 72, 886]),
  (56, .ifCond .ne 7, 3, 63, 0, 0, 0, [], none, []),
  (59, .iconst 1, 1, 0, 0, 1, 0, [], none, []),
  (60, .goto 4, 3, 64, 0, 0, 0, [], none, []),
  (63, .iconst 0, 1, 0, 0, 0, 0, [], none, []),
  (64, .ireturn, 1, 0, 0, 0, 0, [], none, [])]
theorem k_Ha_isPeacefulAt : zOK m_Ha_isPeacefulAt P_Ha_isPeacefulAt := (by decide +kernel : P_Ha_isPeacefulAt.all (zchk m_Ha_isPeacefulAt.1.cls m_Ha_isPeacefulAt.2.1) = true)

def P_Ha_sitterAt : List zEn := [
  (0, .iload_n 1, 1, 0, 0, 0, 0, [], none, []),
  (1, .iconst (-1), 1, 0, 0, -1, 0, [], none, []),
  (2, .if_icmp .ne 7, 3, 9, 0, 0, 0, [], none, []),
  (5, .iconst (-1), 1, 0, 0, -1, 0, [], none, []),
  (6, .goto 6, 3, 12, 0, 0, 0, [], none, []),
  (9, .aload_n 0, 1, 0, 0, 0, 0, [], none, []),
  (10, .iload_n 1, 1, 0, 0, 0, 0, [], none, []),
  (11, .iaload, 1, 0, 0, 0, 0, [], none, []),
  (12, .ireturn, 1, 0, 0, 0, 0, [], none, [])]
theorem k_Ha_sitterAt : zOK m_Ha_sitterAt P_Ha_sitterAt := (by decide +kernel : P_Ha_sitterAt.all (zchk m_Ha_sitterAt.1.cls m_Ha_sitterAt.2.1) = true)

def P_Ha_talkCost : List zEn := [
  (0, .iload_n 1, 1, 0, 0, 0, 0, [], none, []),
  (1, .iconst (-1), 1, 0, 0, -1, 0, [], none, []),
  (2, .if_icmp .eq 8, 3, 10, 0, 0, 0, [], none, []),
  (5, .iload_n 2, 1, 0, 0, 0, 0, [], none, []),
  (6, .iconst (-1), 1, 0, 0, -1, 0, [], none, []),
  (7, .if_icmp .ne 7, 3, 14, 0, 0, 0, [], none, []),
  (10, .iconst 0, 1, 0, 0, 0, 0, [], none, []),
  (11, .goto 19, 3, 30, 0, 0, 0, [], none, []),
  (14, .aload_n 0, 1, 0, 0, 0, 0, [], none, []),
  (15, .getfield 24, 3, 1, 3, 0, 0, [], none, [323]),
  (18, .aload_n 0, 1, 0, 0, 0, 0, [], none, []),
  (19, .iload_n 1, 1, 0, 0, 0, 0, [], none, []),
  (20, .invokevirtual 110, 3, 1, 1, 0, 0, [], some m_Ha_tongueOf, [863, 865, 27, 72, 866]),
  (23, .aaload, 1, 0, 0, 0, 0, [], none, []),
  (24, .aload_n 0, 1, 0, 0, 0, 0, [], none, []),
  (25, .iload_n 2, 1, 0, 0, 0, 0, [], none, []),
  (26, .invokevirtual 110, 3, 1, 1, 0, 0, [], some m_Ha_tongueOf, [863, 865, 27, 72, 866]),
  (29, .iaload, 1, 0, 0, 0, 0, [], none, []),
  (30, .ireturn, 1, 0, 0, 0, 0, [], none, [])]
theorem k_Ha_talkCost : zOK m_Ha_talkCost P_Ha_talkCost := (by decide +kernel : P_Ha_talkCost.all (zchk m_Ha_talkCost.1.cls m_Ha_talkCost.2.1) = true)

def P_Ha_areFeuding : List zEn := [
  (0, .iload_n 1, 1, 0, 0, 0, 0, [], none, []),
  (1, .iconst (-1), 1, 0, 0, -1, 0, [], none, []),
  (2, .if_icmp .eq 32, 3, 34, 0, 0, 0, [], none, []),
  (5, .iload_n 2, 1, 0, 0, 0, 0, [], none, []),
  (6, .iconst (-1), 1, 0, 0, -1, 0, [], none, []),
  (7, .if_icmp .eq 27, 3, 34, 0, 0, 0, [], none, []),
  (10, .aload_n 0, 1, 0, 0, 0, 0, [], none, []),
  (11, .getfield 21, 3, 1, 2, 0, 0, [], none, [322]),
  (14, .aload_n 0, 1, 0, 0, 0, 0, [], none, []),
  (15, .iload_n 1, 1, 0, 0, 0, 0, [], none, []),
  (16, .invokevirtual 113, 3, 1, 1, 0, 0, [], some m_Ha_homeOf, [887, 889, 29, 72, 890]),
  (19, .aaload, 1, 0, 0, 0, 0, [], none, []),
  (20, .aload_n 0, 1, 0, 0, 0, 0, [], none, []),
  (21, .iload_n 2, 1, 0, 0, 0, 0, [], none, []),
  (22, .invokevirtual 113, 3, 1, 1, 0, 0, [], some m_Ha_homeOf, [887, 889, 29, 72, 890]),
  (25, .iaload, 1, 0, 0, 0, 0, [], none, []),
  (26, .iconst 1, 1, 0, 0, 1, 0, [], none, []),
  (27, .if_icmp .ne 7, 3, 34, 0, 0, 0, [], none, []),
  (30, .iconst 1, 1, 0, 0, 1, 0, [], none, []),
  (31, .goto 4, 3, 35, 0, 0, 0, [], none, []),
  (34, .iconst 0, 1, 0, 0, 0, 0, [], none, []),
  (35, .ireturn, 1, 0, 0, 0, 0, [], none, [])]
theorem k_Ha_areFeuding : zOK m_Ha_areFeuding P_Ha_areFeuding := (by decide +kernel : P_Ha_areFeuding.all (zchk m_Ha_areFeuding.1.cls m_Ha_areFeuding.2.1) = true)

def P_Ha_tongueOf : List zEn := [
  (0, .aload_n 0, 1, 0, 0, 0, 0, [], none, []),
  (1, .getfield 31, 3, 1, 5, 0, 0, [], none, [325]),
  (4, .getfield 116, 3, 3, 4, 0, 0, [], none, [114]),
  (7, .iload_n 1, 1, 0, 0, 0, 0, [], none, []),
  (8, .aaload, 1, 0, 0, 0, 0, [], none, []),
  (9, .bipush 6, 2, 0, 0, 6, 0, [], none, []),
  (11, .iaload, 1, 0, 0, 0, 0, [], none, []),
  (12, .ireturn, 1, 0, 0, 0, 0, [], none, [])]
theorem k_Ha_tongueOf : zOK m_Ha_tongueOf P_Ha_tongueOf := (by decide +kernel : P_Ha_tongueOf.all (zchk m_Ha_tongueOf.1.cls m_Ha_tongueOf.2.1) = true)

def P_Ha_homeOf : List zEn := [
  (0, .aload_n 0, 1, 0, 0, 0, 0, [], none, []),
  (1, .getfield 31, 3, 1, 5, 0, 0, [], none, [325]),
  (4, .getfield 116, 3, 3, 4, 0, 0, [], none, [114]),
  (7, .iload_n 1, 1, 0, 0, 0, 0, [], none, []),
  (8, .aaload, 1, 0, 0, 0, 0, [], none, []),
  (9, .iconst 5, 1, 0, 0, 5, 0, [], none, []),
  (10, .iaload, 1, 0, 0, 0, 0, [], none, []),
  (11, .ireturn, 1, 0, 0, 0, 0, [], none, [])]
theorem k_Ha_homeOf : zOK m_Ha_homeOf P_Ha_homeOf := (by decide +kernel : P_Ha_homeOf.all (zchk m_Ha_homeOf.1.cls m_Ha_homeOf.2.1) = true)

def P_Pr_form : List zEn := [
  (0, .aload_n 0, 1, 0, 0, 0, 0, [], none, []),
  (1, .iconst 0, 1, 0, 0, 0, 0, [], none, []),
  (2, .putfield 43, 3, 2, 0, 0, 0, [], none, [252]),
  (5, .aload_n 0, 1, 0, 0, 0, 0, [], none, []),
  (6, .iconst 0, 1, 0, 0, 0, 0, [], none, []),
  (7, .putfield 47, 3, 2, 1, 0, 0, [], none, [255]),
  (10, .iconst 0, 1, 0, 0, 0, 0, [], none, []),
  (11, .istore_n 3, 1, 0, 0, 0, 0, [], none, []),
  (12, .iload_n 3, 1, 0, 0, 0, 0, [], none, []),
  (13, .bipush 20, 2, 0, 0, 20, 0, [], none, []),
  (15, .if_icmp .ge 44, 3, 59, 0, 0, 0, [], none, []),
  (18, .aload_n 0, 1, 0, 0, 0, 0, [], none, []),
  (19, .getfield 20, 3, 2, 4, 0, 0, [], none, [262]),
  (22, .iload_n 3, 1, 0, 0, 0, 0, [], none, []),
  (23, .iload_n 3, 1, 0, 0, 0, 0, [], none, []),
  (24, .aload_n 0, 1, 0, 0, 0, 0, [], none, []),
  (25, .getfield 35, 3, 2, 8, 0, 0, [], none, [266]),
  (28, .getfield 50, 3, 3, 1, 0, 0, [], none, [103]),
  (31, .if_icmp .ge 20, 3, 51, 0, 0, 0, [], none, []),
  (34, .aload_n 0, 1, 0, 0, 0, 0, [], none, []),
  (35, .getfield 35, 3, 2, 8, 0, 0, [], none, [266]),
  (38, .getfield 53, 3, 3, 2, 0, 0, [], none, [107]),
  (41, .iload_n 3, 1, 0, 0, 0, 0, [], none, []),
  (42, .iaload, 1, 0, 0, 0, 0, [], none, []),
  (43, .iconst 1, 1, 0, 0, 1, 0, [], none, []),
  (44, .if_icmp .ne 7, 3, 51, 0, 0, 0, [], none, []),
  (47, .iconst 1, 1, 0, 0, 1, 0, [], none, []),
  (48, .goto 4, 3, 52, 0, 0, 0, [], none, []),
  (51, .iconst 0, 1, 0, 0, 0, 0, [], none, []),
  (52, .bastore, 1, 0, 0, 0, 0, [], none, []),
  (53, .iinc 3 1, 3, 0, 0, 1, 0, [], none, []),
  (56, .goto (-44), 3, 12, 0, 0, 0, [], none, []),
  (59, .iconst 0, 1, 0, 0, 0, 0, [], none, []),
  (60, .istore_n 3, 1, 0, 0, 0, 0, [], none, []),
  (61, .iload_n 3, 1, 0, 0, 0, 0, [], none, []),
  (62, .aload_n 0, 1, 0, 0, 0, 0, [], none, []),
  (63, .getfield 35, 3, 2, 8, 0, 0, [], none, [266]),
  (66, .getfield 50, 3, 3, 1, 0, 0, [], none, [103]),
  (69, .if_icmp .ge 95, 3, 164, 0, 0, 0, [], none, []),
  (72, .iload_n 3, 1, 0, 0, 0, 0, [], none, []),
  (73, .iconst 1, 1, 0, 0, 1, 0, [], none, []),
  (74, .iadd, 1, 0, 0, 0, 0, [], none, []),
  (75, .istore 4, 2, 0, 0, 0, 0, [], none, []),
  (77, .iload 4, 2, 0, 0, 0, 0, [], none, []),
  (79, .aload_n 0, 1, 0, 0, 0, 0, [], none, []),
  (80, .getfield 35, 3, 2, 8, 0, 0, [], none, [266]),
  (83, .getfield 50, 3, 3, 1, 0, 0, [], none, [103]),
  (86, .if_icmp .ge 72, 3, 158, 0, 0, 0, [], none, []),
  (89, .aload_n 0, 1, 0, 0, 0, 0, [], none, []),
  (90, .getfield 32, 3, 2, 7, 0, 0, [], none, [265]),
  (93, .iload_n 3, 1, 0, 0, 0, 0, [], none, []),
  (94, .aaload, 1, 0, 0, 0, 0, [], none, []),
  (95, .iload 4, 2, 0, 0, 0, 0, [], none, []),
  (97, .aload_n 0, 1, 0, 0, 0, 0, [], none, []),
  (98, .getfield 20, 3, 2, 4, 0, 0, [], none, [262]),
  (101, .iload_n 3, 1, 0, 0, 0, 0, [], none, []),
  (102, .baload, 1, 0, 0, 0, 0, [], none, []),
  (103, .ifCond .eq 28, 3, 131, 0, 0, 0, [], none, []),
  (106, .aload_n 0, 1, 0, 0, 0, 0, [], none, []),
  (107, .getfield 20, 3, 2, 4, 0, 0, [], none, [262]),
  (110, .iload 4, 2, 0, 0, 0, 0, [], none, []),
  (112, .baload, 1, 0, 0, 0, 0, [], none, []),
  (113, .ifCond .eq 18, 3, 131, 0, 0, 0, [], none, []),
  (116, .aload_n 0, 1, 0, 0, 0, 0, [], none, []),
  (117, .getfield 39, 3, 2, 9, 0, 0, [], none, [267]),
  (120, .iload_n 1, 1, 0, 0, 0, 0, [], none, []),
  (121, .iload_n 2, 1, 0, 0, 0, 0, [], none, []),
  (122, .iload_n 3, 1, 0, 0, 0, 0, [], none, []),
  (123, .iload 4, 2, 0, 0, 0, 0, [], none, []),
  (125, .invokevirtual 56, 3, 5, 4, 0, 0, [], some m_Bo_leader, [732, 698, 699, 69, 700]),
  (128, .goto 4, 3, 132, 0, 0, 0, [], none, []),
  (131, .iconst 0, 1, 0, 0, 0, 0, [], none, []),
  (132, .iastore, 1, 0, 0, 0, 0, [], none, []),
  (133, .aload_n 0, 1, 0, 0, 0, 0, [], none, []),
  (134, .getfield 32, 3, 2, 7, 0, 0, [], none, [265]),
  (137, .iload 4, 2, 0, 0, 0, 0, [], none, []),
  (139, .aaload, 1, 0, 0, 0, 0, [], none, []),
  (140, .iload_n 3, 1, 0, 0, 0, 0, [], none, []),
  (141, .aload_n 0, 1, 0, 0, 0, 0, [], none, []),
  (142, .getfield 32, 3, 2, 7, 0, 0, [], none, [265]),
  (145, .iload_n 3, 1, 0, 0, 0, 0, [], none, []),
  (146, .aaload, 1, 0, 0, 0, 0, [], none, []),
  (147, .iload 4, 2, 0, 0, 0, 0, [], none, []),
  (149, .iaload, 1, 0, 0, 0, 0, [], none, []),
  (150, .ineg, 1, 0, 0, 0, 0, [], none, []),
  (151, .iastore, 1, 0, 0, 0, 0, [], none, []),
  (152, .iinc 4 1, 3, 0, 0, 1, 0, [], none, []),
  (155, .goto (-78), 3, 77, 0, 0, 0, [], none, []),
  (158, .iinc 3 1, 3, 0, 0, 1, 0, [], none, []),
  (161, .goto (-100), 3, 61, 0, 0, 0, [], none, []),
  (164, .aload_n 0, 1, 0, 0, 0, 0, [], none, []),
  (165, .getfield 35, 3, 2, 8, 0, 0, [], none, [266]),
  (168, .invokevirtual 62, 3, 3, 0, 0, 0, [], some m_Ro_countPresent, [733, 734, 735, 67, 736]),
  (171, .istore_n 3, 1, 0, 0, 0, 0, [], none, []),
  (172, .iconst 0, 1, 0, 0, 0, 0, [], none, []),
  (173, .istore 4, 2, 0, 0, 0, 0, [], none, []),
  (175, .iload 4, 2, 0, 0, 0, 0, [], none, []),
  (177, .iload_n 3, 1, 0, 0, 0, 0, [], none, []),
  (178, .if_icmp .ge 13, 3, 191, 0, 0, 0, [], none, []),
  (181, .aload_n 0, 1, 0, 0, 0, 0, [], none, []),
  (182, .invokevirtual 66, 3, 2, 0, 0, 0, [], some m_Pr_takeNext, [737, 739, 19, 71, 740]),
  (185, .iinc 4 1, 3, 0, 0, 1, 0, [], none, []),
  (188, .goto (-13), 3, 175, 0, 0, 0, [], none, []),
  (191, .return_, 1, 0, 0, 0, 0, [], none, [])]
theorem k_Pr_form : zOK m_Pr_form P_Pr_form := (by decide +kernel : P_Pr_form.all (zchk m_Pr_form.1.cls m_Pr_form.2.1) = true)

def P_Pr_takeNext : List zEn := [
  (0, .aload_n 0, 1, 0, 0, 0, 0, [], none, []),
  (1, .invokevirtual 69, 3, 2, 0, 0, 0, [], some m_Pr_leastUnled, [741, 743, 20, 71, 744]),
  (4, .istore_n 1, 1, 0, 0, 0, 0, [], none, []),
  (5, .iload_n 1, 1, 0, 0, 0, 0, [], none, []),
  (6, .iconst (-1), 1, 0, 0, -1, 0, [], none, []),
  (7, .if_icmp .ne 26, 3, 33, 0, 0, 0, [], none, []),
  (10, .aload_n 0, 1, 0, 0, 0, 0, [], none, []),
  (11, .invokevirtual 72, 3, 2, 0, 0, 0, [], some m_Pr_leastLeft, [749, 751, 22, 71, 752]),
  (14, .istore_n 1, 1, 0, 0, 0, 0, [], none, []),
  (15, .iload_n 1, 1, 0, 0, 0, 0, [], none, []),
  (16, .iconst (-1), 1, 0, 0, -1, 0, [], none, []),
  (17, .if_icmp .ne 4, 3, 21, 0, 0, 0, [], none, []),
  (20, .return_, 1, 0, 0, 0, 0, [], none, []),
  (21, .aload_n 0, 1, 0, 0, 0, 0, [], none, []),
  (22, .getfield 47, 3, 2, 1, 0, 0, [], none, [255]),
  (25, .ifCond .ne 8, 3, 33, 0, 0, 0, [], none, []),
  (28, .aload_n 0, 1, 0, 0, 0, 0, [], none, []),
  (29, .iload_n 1, 1, 0, 0, 0, 0, [], none, []),
  (30, .invokevirtual 75, 3, 2, 1, 0, 0, [], some m_Pr_tellRing, [753, 755, 23, 71, 756]),
  (33, .aload_n 0, 1, 0, 0, 0, 0, [], none, []),
  (34, .getfield 20, 3, 2, 4, 0, 0, [], none, [262]),
  (37, .iload_n 1, 1, 0, 0, 0, 0, [], none, []),
  (38, .iconst 0, 1, 0, 0, 0, 0, [], none, []),
  (39, .bastore, 1, 0, 0, 0, 0, [], none, []),
  (40, .aload_n 0, 1, 0, 0, 0, 0, [], none, []),
  (41, .getfield 11, 3, 2, 2, 0, 0, [], none, [257]),
  (44, .aload_n 0, 1, 0, 0, 0, 0, [], none, []),
  (45, .getfield 43, 3, 2, 0, 0, 0, [], none, [252]),
  (48, .iload_n 1, 1, 0, 0, 0, 0, [], none, []),
  (49, .iastore, 1, 0, 0, 0, 0, [], none, []),
  (50, .aload_n 0, 1, 0, 0, 0, 0, [], none, []),
  (51, .dup, 1, 0, 0, 0, 0, [], none, []),
  (52, .getfield 43, 3, 2, 0, 0, 0, [], none, [252]),
  (55, .iconst 1, 1, 0, 0, 1, 0, [], none, []),
  (56, .iadd, 1, 0, 0, 0, 0, [], none, []),
  (57, .putfield 43, 3, 2, 0, 0, 0, [], none, [252]),
  (60, .return_, 1, 0, 0, 0, 0, [], none, [])]
theorem k_Pr_takeNext : zOK m_Pr_takeNext P_Pr_takeNext := (by decide +kernel : P_Pr_takeNext.all (zchk m_Pr_takeNext.1.cls m_Pr_takeNext.2.1) = true)

def P_Pr_leastLeft : List zEn := [
  (0, .iconst 0, 1, 0, 0, 0, 0, [], none, []),
  (1, .istore_n 1, 1, 0, 0, 0, 0, [], none, []),
  (2, .iload_n 1, 1, 0, 0, 0, 0, [], none, []),
  (3, .aload_n 0, 1, 0, 0, 0, 0, [], none, []),
  (4, .getfield 35, 3, 2, 8, 0, 0, [], none, [266]),
  (7, .getfield 50, 3, 3, 1, 0, 0, [], none, [103]),
  (10, .if_icmp .ge 20, 3, 30, 0, 0, 0, [], none, []),
  (13, .aload_n 0, 1, 0, 0, 0, 0, [], none, []),
  (14, .getfield 20, 3, 2, 4, 0, 0, [], none, [262]),
  (17, .iload_n 1, 1, 0, 0, 0, 0, [], none, []),
  (18, .baload, 1, 0, 0, 0, 0, [], none, []),
  (19, .ifCond .eq 5, 3, 24, 0, 0, 0, [], none, []),
  (22, .iload_n 1, 1, 0, 0, 0, 0, [], none, []),
  (23, .ireturn, 1, 0, 0, 0, 0, [], none, []),
  (24, .iinc 1 1, 3, 0, 0, 1, 0, [], none, []),
  (27, .goto (-25), 3, 2, 0, 0, 0, [], none, []),
  (30, .iconst (-1), 1, 0, 0, -1, 0, [], none, []),
  (31, .ireturn, 1, 0, 0, 0, 0, [], none, [])]
theorem k_Pr_leastLeft : zOK m_Pr_leastLeft P_Pr_leastLeft := (by decide +kernel : P_Pr_leastLeft.all (zchk m_Pr_leastLeft.1.cls m_Pr_leastLeft.2.1) = true)

def P_Pr_leastUnled : List zEn := [
  (0, .iconst 0, 1, 0, 0, 0, 0, [], none, []),
  (1, .istore_n 1, 1, 0, 0, 0, 0, [], none, []),
  (2, .iload_n 1, 1, 0, 0, 0, 0, [], none, []),
  (3, .aload_n 0, 1, 0, 0, 0, 0, [], none, []),
  (4, .getfield 35, 3, 2, 8, 0, 0, [], none, [266]),
  (7, .getfield 50, 3, 3, 1, 0, 0, [], none, [103]),
  (10, .if_icmp .ge 29, 3, 39, 0, 0, 0, [], none, []),
  (13, .aload_n 0, 1, 0, 0, 0, 0, [], none, []),
  (14, .getfield 20, 3, 2, 4, 0, 0, [], none, [262]),
  (17, .iload_n 1, 1, 0, 0, 0, 0, [], none, []),
  (18, .baload, 1, 0, 0, 0, 0, [], none, []),
  (19, .ifCond .eq 14, 3, 33, 0, 0, 0, [], none, []),
  (22, .aload_n 0, 1, 0, 0, 0, 0, [], none, []),
  (23, .iload_n 1, 1, 0, 0, 0, 0, [], none, []),
  (24, .invokevirtual 79, 3, 2, 1, 0, 0, [], some m_Pr_leastAheadOf, [745, 747, 21, 71, 748]),
  (27, .iconst (-1), 1, 0, 0, -1, 0, [], none, []),
  (28, .if_icmp .ne 5, 3, 33, 0, 0, 0, [], none, []),
  (31, .iload_n 1, 1, 0, 0, 0, 0, [], none, []),
  (32, .ireturn, 1, 0, 0, 0, 0, [], none, []),
  (33, .iinc 1 1, 3, 0, 0, 1, 0, [], none, []),
  (36, .goto (-34), 3, 2, 0, 0, 0, [], none, []),
  (39, .iconst (-1), 1, 0, 0, -1, 0, [], none, []),
  (40, .ireturn, 1, 0, 0, 0, 0, [], none, [])]
theorem k_Pr_leastUnled : zOK m_Pr_leastUnled P_Pr_leastUnled := (by decide +kernel : P_Pr_leastUnled.all (zchk m_Pr_leastUnled.1.cls m_Pr_leastUnled.2.1) = true)

def P_Pr_leastAheadOf : List zEn := [
  (0, .iconst 0, 1, 0, 0, 0, 0, [], none, []),
  (1, .istore_n 2, 1, 0, 0, 0, 0, [], none, []),
  (2, .iload_n 2, 1, 0, 0, 0, 0, [], none, []),
  (3, .aload_n 0, 1, 0, 0, 0, 0, [], none, []),
  (4, .getfield 35, 3, 2, 8, 0, 0, [], none, [266]),
  (7, .getfield 50, 3, 3, 1, 0, 0, [], none, [103]),
  (10, .if_icmp .ge 37, 3, 47, 0, 0, 0, [], none, []),
  (13, .iload_n 2, 1, 0, 0, 0, 0, [], none, []),
  (14, .iload_n 1, 1, 0, 0, 0, 0, [], none, []),
  (15, .if_icmp .eq 26, 3, 41, 0, 0, 0, [], none, []),
  (18, .aload_n 0, 1, 0, 0, 0, 0, [], none, []),
  (19, .getfield 20, 3, 2, 4, 0, 0, [], none, [262]),
  (22, .iload_n 2, 1, 0, 0, 0, 0, [], none, []),
  (23, .baload, 1, 0, 0, 0, 0, [], none, []),
  (24, .ifCond .eq 17, 3, 41, 0, 0, 0, [], none, []),
  (27, .aload_n 0, 1, 0, 0, 0, 0, [], none, []),
  (28, .getfield 32, 3, 2, 7, 0, 0, [], none, [265]),
  (31, .iload_n 2, 1, 0, 0, 0, 0, [], none, []),
  (32, .aaload, 1, 0, 0, 0, 0, [], none, []),
  (33, .iload_n 1, 1, 0, 0, 0, 0, [], none, []),
  (34, .iaload, 1, 0, 0, 0, 0, [], none, []),
  (35, .iconst 1, 1, 0, 0, 1, 0, [], none, []),
  (36, .if_icmp .ne 5, 3, 41, 0, 0, 0, [], none, []),
  (39, .iload_n 2, 1, 0, 0, 0, 0, [], none, []),
  (40, .ireturn, 1, 0, 0, 0, 0, [], none, []),
  (41, .iinc 2 1, 3, 0, 0, 1, 0, [], none, []),
  (44, .goto (-42), 3, 2, 0, 0, 0, [], none, []),
  (47, .iconst (-1), 1, 0, 0, -1, 0, [], none, []),
  (48, .ireturn, 1, 0, 0, 0, 0, [], none, [])]
theorem k_Pr_leastAheadOf : zOK m_Pr_leastAheadOf P_Pr_leastAheadOf := (by decide +kernel : P_Pr_leastAheadOf.all (zchk m_Pr_leastAheadOf.1.cls m_Pr_leastAheadOf.2.1) = true)

def P_Pr_tellRing : List zEn := [
  (0, .aload_n 0, 1, 0, 0, 0, 0, [], none, []),
  (1, .getfield 27, 3, 2, 6, 0, 0, [], none, [264]),
  (4, .iconst (-1), 1, 0, 0, -1, 0, [], none, []),
  (5, .invokestatic 83, 3, 0, 2, 0, 0, [], some m_Jarr_fill, [757, 758, 82, 759]),
  (8, .iload_n 1, 1, 0, 0, 0, 0, [], none, []),
  (9, .istore_n 2, 1, 0, 0, 0, 0, [], none, []),
  (10, .iconst 0, 1, 0, 0, 0, 0, [], none, []),
  (11, .istore_n 3, 1, 0, 0, 0, 0, [], none, []),
  (12, .iload_n 3, 1, 0, 0, 0, 0, [], none, []),
  (13, .bipush 20, 2, 0, 0, 20, 0, [], none, []),
  (15, .if_icmp .ge 44, 3, 59, 0, 0, 0, [], none, []),
  (18, .iload_n 2, 1, 0, 0, 0, 0, [], none, []),
  (19, .iconst (-1), 1, 0, 0, -1, 0, [], none, []),
  (20, .if_icmp .eq 39, 3, 59, 0, 0, 0, [], none, []),
  (23, .aload_n 0, 1, 0, 0, 0, 0, [], none, []),
  (24, .getfield 27, 3, 2, 6, 0, 0, [], none, [264]),
  (27, .iload_n 2, 1, 0, 0, 0, 0, [], none, []),
  (28, .iaload, 1, 0, 0, 0, 0, [], none, []),
  (29, .iconst (-1), 1, 0, 0, -1, 0, [], none, []),
  (30, .if_icmp .ne 29, 3, 59, 0, 0, 0, [], none, []),
  (33, .aload_n 0, 1, 0, 0, 0, 0, [], none, []),
  (34, .getfield 27, 3, 2, 6, 0, 0, [], none, [264]),
  (37, .iload_n 2, 1, 0, 0, 0, 0, [], none, []),
  (38, .iload_n 3, 1, 0, 0, 0, 0, [], none, []),
  (39, .iastore, 1, 0, 0, 0, 0, [], none, []),
  (40, .aload_n 0, 1, 0, 0, 0, 0, [], none, []),
  (41, .getfield 24, 3, 2, 5, 0, 0, [], none, [263]),
  (44, .iload_n 3, 1, 0, 0, 0, 0, [], none, []),
  (45, .iload_n 2, 1, 0, 0, 0, 0, [], none, []),
  (46, .iastore, 1, 0, 0, 0, 0, [], none, []),
  (47, .iinc 3 1, 3, 0, 0, 1, 0, [], none, []),
  (50, .aload_n 0, 1, 0, 0, 0, 0, [], none, []),
  (51, .iload_n 2, 1, 0, 0, 0, 0, [], none, []),
  (52, .invokevirtual 79, 3, 2, 1, 0, 0, [], some m_Pr_leastAheadOf, [745, 747, 21, 71, 748]),
  (55, .istore_n 2, 1, 0, 0, 0, 0, [], none, []),
  (56, .goto (-44), 3, 12, 0, 0, 0, [], none, []),
  (59, .iload_n 2, 1, 0, 0, 0, 0, [], none, []),
  (60, .iconst (-1), 1, 0, 0, -1, 0, [], none, []),
  (61, .if_icmp .eq 13, 3, 74, 0, 0, 0, [], none, []),
  (64, .aload_n 0, 1, 0, 0, 0, 0, [], none, []),
  (65, .getfield 27, 3, 2, 6, 0, 0, [], none, [264]),
  (68, .iload_n 2, 1, 0, 0, 0, 0, [], none, []),
  (69, .iaload, 1, 0, 0, 0, 0, [], none, []),
  (70, .iconst (-1), 1, 0, 0, -1, 0, [], none, []),
  (71, .if_icmp .ne 4, 3, 75, 0, 0, 0, [], none, []),
  (74, .return_, 1, 0, 0, 0, 0, [], none, []),
  (75, .aload_n 0, 1, 0, 0, 0, 0, [], none, []),
  (76, .getfield 27, 3, 2, 6, 0, 0, [], none, [264]),
  (79, .iload_n 2, 1, 0, 0, 0, 0, [], none, []),
  (80, .iaload, 1, 0, 0, 0, 0, [], none, []),
  (81, .istore 4, 2, 0, 0, 0, 0, [], none, []),
  (83, .iload 4, 2, 0, 0, 0, 0, [], none, []),
  (85, .iload_n 3, 1, 0, 0, 0, 0, [], none, []),
  (86, .if_icmp .ge 35, 3, 121, 0, 0, 0, [], none, []),
  (89, .aload_n 0, 1, 0, 0, 0, 0, [], none, []),
  (90, .getfield 17, 3, 2, 3, 0, 0, [], none, [260]),
  (93, .aload_n 0, 1, 0, 0, 0, 0, [], none, []),
  (94, .getfield 47, 3, 2, 1, 0, 0, [], none, [255]),
  (97, .aload_n 0, 1, 0, 0, 0, 0, [], none, []),
  (98, .getfield 24, 3, 2, 5, 0, 0, [], none, [263]),
  (101, .iload 4, 2, 0, 0, 0, 0, [], none, []),
  (103, .iaload, 1, 0, 0, 0, 0, [], none, []),
  (104, .iastore, 1, 0, 0, 0, 0, [], none, []),
  (105, .aload_n 0, 1, 0, 0, 0, 0, [], none, []),
  (106, .dup, 1, 0, 0, 0, 0, [], none, []),
  (107, .getfield 47, 3, 2, 1, 0, 0, [], none, [255]),
  (110, .iconst 1, 1, 0, 0, 1, 0, [], none, []),
  (111, .iadd, 1, 0, 0, 0, 0, [], none, []),
  (112, .putfield 47, 3, 2, 1, 0, 0, [], none, [255]),
  (115, .iinc 4 1, 3, 0, 0, 1, 0, [], none, []),
  (118, .goto (-35), 3, 83, 0, 0, 0, [], none, []),
  (121, .return_, 1, 0, 0, 0, 0, [], none, [])]
theorem k_Pr_tellRing : zOK m_Pr_tellRing P_Pr_tellRing := (by decide +kernel : P_Pr_tellRing.all (zchk m_Pr_tellRing.1.cls m_Pr_tellRing.2.1) = true)

def P_Se_arrange : List zEn := [
  (0, .aload_n 0, 1, 0, 0, 0, 0, [], none, []),
  (1, .iload_n 3, 1, 0, 0, 0, 0, [], none, []),
  (2, .invokevirtual 31, 3, 6, 1, 0, 0, [], some m_Se_gatherGuests, [913, 915, 30, 74, 916]),
  (5, .aload_n 0, 1, 0, 0, 0, 0, [], none, []),
  (6, .getfield 27, 3, 6, 4, 0, 0, [], none, [349]),
  (9, .aload_n 2, 1, 0, 0, 0, 0, [], none, []),
  (10, .iload_n 3, 1, 0, 0, 0, 0, [], none, []),
  (11, .invokevirtual 35, 3, 1, 2, 0, 0, [], some m_Ha_numberPlaces, [918, 841, 842, 72, 843]),
  (14, .aload_n 0, 1, 0, 0, 0, 0, [], none, []),
  (15, .getfield 21, 3, 6, 2, 0, 0, [], none, [347]),
  (18, .iconst (-1), 1, 0, 0, -1, 0, [], none, []),
  (19, .invokestatic 41, 3, 0, 2, 0, 0, [], some m_Jarr_fill, [919, 758, 82, 759]),
  (22, .aload_n 0, 1, 0, 0, 0, 0, [], none, []),
  (23, .getfield 24, 3, 6, 3, 0, 0, [], none, [348]),
  (26, .iconst (-1), 1, 0, 0, -1, 0, [], none, []),
  (27, .invokestatic 41, 3, 0, 2, 0, 0, [], some m_Jarr_fill, [919, 758, 82, 759]),
  (30, .aload_n 0, 1, 0, 0, 0, 0, [], none, []),
  (31, .ldc 47, 2, 0, 0, 1000000, 0, [], none, [920]),
  (33, .putfield 48, 3, 6, 6, 0, 0, [], none, [351]),
  (36, .aload_n 0, 1, 0, 0, 0, 0, [], none, []),
  (37, .aload_n 1, 1, 0, 0, 0, 0, [], none, []),
  (38, .iconst 0, 1, 0, 0, 0, 0, [], none, []),
  (39, .iconst 0, 1, 0, 0, 0, 0, [], none, []),
  (40, .invokevirtual 52, 3, 6, 3, 0, 0, [], some m_Se_fillFrom, [921, 923, 31, 74, 924]),
  (43, .aload_n 0, 1, 0, 0, 0, 0, [], none, []),
  (44, .getfield 48, 3, 6, 6, 0, 0, [], none, [351]),
  (47, .ldc 47, 2, 0, 0, 1000000, 0, [], none, [920]),
  (49, .if_icmp .ne 5, 3, 54, 0, 0, 0, [], none, []),
  (52, .iconst (-1), 1, 0, 0, -1, 0, [], none, []),
  (53, .ireturn, 1, 0, 0, 0, 0, [], none, []),
  (54, .aload_n 0, 1, 0, 0, 0, 0, [], none, []),
  (55, .getfield 24, 3, 6, 3, 0, 0, [], none, [348]),
  (58, .iconst 0, 1, 0, 0, 0, 0, [], none, []),
  (59, .aload_n 1, 1, 0, 0, 0, 0, [], none, []),
  (60, .getfield 56, 3, 7, 1, 0, 0, [], none, [307]),
  (63, .iconst 0, 1, 0, 0, 0, 0, [], none, []),
  (64, .bipush 12, 2, 0, 0, 12, 0, [], none, []),
  (66, .invokestatic 59, 3, 0, 5, 0, 0, [], none, [925, 927, 926, 84]),
  (69, .aload_n 0, 1, 0, 0, 0, 0, [], none, []),
  (70, .getfield 48, 3, 6, 6, 0, 0, [], none, [351]),
  (73, .ireturn, 1, 0, 0, 0, 0, [], none, [])]
theorem k_Se_arrange : zOK m_Se_arrange P_Se_arrange := (by decide +kernel : P_Se_arrange.all (zchk m_Se_arrange.1.cls m_Se_arrange.2.1) = true)

def P_Se_gatherGuests : List zEn := [
  (0, .aload_n 0, 1, 0, 0, 0, 0, [], none, []),
  (1, .iconst 0, 1, 0, 0, 0, 0, [], none, []),
  (2, .putfield 65, 3, 6, 5, 0, 0, [], none, [350]),
  (5, .iconst 0, 1, 0, 0, 0, 0, [], none, []),
  (6, .istore_n 2, 1, 0, 0, 0, 0, [], none, []),
  (7, .iload_n 2, 1, 0, 0, 0, 0, [], none, []),
  (8, .bipush 20, 2, 0, 0, 20, 0, [], none, []),
  (10, .if_icmp .ge 56, 3, 66, 0, 0, 0, [], none, []),
  (13, .aload_n 0, 1, 0, 0, 0, 0, [], none, []),
  (14, .getfield 65, 3, 6, 5, 0, 0, [], none, [350]),
  (17, .bipush 7, 2, 0, 0, 7, 0, [], none, []),
  (19, .if_icmp .ge 47, 3, 66, 0, 0, 0, [], none, []),
  (22, .iload_n 1, 1, 0, 0, 0, 0, [], none, []),
  (23, .iload_n 2, 1, 0, 0, 0, 0, [], none, []),
  (24, .invokestatic 70, 3, 0, 2, 0, 0, [], some m_Ro_isIn, [917, 516, 67, 517]),
  (27, .ifCond .eq 33, 3, 60, 0, 0, 0, [], none, []),
  (30, .aload_n 0, 1, 0, 0, 0, 0, [], none, []),
  (31, .getfield 11, 3, 6, 0, 0, 0, [], none, [345]),
  (34, .aload_n 0, 1, 0, 0, 0, 0, [], none, []),
  (35, .getfield 65, 3, 6, 5, 0, 0, [], none, [350]),
  (38, .iload_n 2, 1, 0, 0, 0, 0, [], none, []),
  (39, .iastore, 1, 0, 0, 0, 0, [], none, []),
  (40, .aload_n 0, 1, 0, 0, 0, 0, [], none, []),
  (41, .getfield 15, 3, 6, 1, 0, 0, [], none, [346]),
  (44, .aload_n 0, 1, 0, 0, 0, 0, [], none, []),
  (45, .getfield 65, 3, 6, 5, 0, 0, [], none, [350]),
  (48, .iconst 0, 1, 0, 0, 0, 0, [], none, []),
  (49, .bastore, 1, 0, 0, 0, 0, [], none, []),
  (50, .aload_n 0, 1, 0, 0, 0, 0, [], none, []),
  (51, .dup, 1, 0, 0, 0, 0, [], none, []),
  (52, .getfield 65, 3, 6, 5, 0, 0, [], none, [350]),
  (55, .iconst 1, 1, 0, 0, 1, 0, [], none, []),
  (56, .iadd, 1, 0, 0, 0, 0, [], none, []),
  (57, .putfield 65, 3, 6, 5, 0, 0, [], none, [350]),
  (60, .iinc 2 1, 3, 0, 0, 1, 0, [], none, []),
  (63, .goto (-56), 3, 7, 0, 0, 0, [], none, []),
  (66, .return_, 1, 0, 0, 0, 0, [], none, [])]
theorem k_Se_gatherGuests : zOK m_Se_gatherGuests P_Se_gatherGuests := (by decide +kernel : P_Se_gatherGuests.all (zchk m_Se_gatherGuests.1.cls m_Se_gatherGuests.2.1) = true)

def P_Se_fillFrom : List zEn := [
  (0, .iload_n 3, 1, 0, 0, 0, 0, [], none, []),
  (1, .aload_n 0, 1, 0, 0, 0, 0, [], none, []),
  (2, .getfield 48, 3, 6, 6, 0, 0, [], none, [351]),
  (5, .if_icmp .lt 4, 3, 9, 0, 0, 0, [], none, []),
  (8, .return_, 1, 0, 0, 0, 0, [], none, []),
  (9, .iload_n 2, 1, 0, 0, 0, 0, [], none, []),
  (10, .aload_n 0, 1, 0, 0, 0, 0, [], none, []),
  (11, .getfield 65, 3, 6, 5, 0, 0, [], none, [350]),
  (14, .if_icmp .lt 26, 3, 40, 0, 0, 0, [], none, []),
  (17, .aload_n 0, 1, 0, 0, 0, 0, [], none, []),
  (18, .iload_n 3, 1, 0, 0, 0, 0, [], none, []),
  (19, .putfield 48, 3, 6, 6, 0, 0, [], none, [351]),
  (22, .aload_n 0, 1, 0, 0, 0, 0, [], none, []),
  (23, .getfield 21, 3, 6, 2, 0, 0, [], none, [347]),
  (26, .iconst 0, 1, 0, 0, 0, 0, [], none, []),
  (27, .aload_n 0, 1, 0, 0, 0, 0, [], none, []),
  (28, .getfield 24, 3, 6, 3, 0, 0, [], none, [348]),
  (31, .iconst 0, 1, 0, 0, 0, 0, [], none, []),
  (32, .aload_n 0, 1, 0, 0, 0, 0, [], none, []),
  (33, .getfield 65, 3, 6, 5, 0, 0, [], none, [350]),
  (36, .invokestatic 59, 3, 0, 5, 0, 0, [], none, [925, 927, 926, 84]),
  (39, .return_, 1, 0, 0, 0, 0, [], none, []),
  (40, .iconst 0, 1, 0, 0, 0, 0, [], none, []),
  (41, .istore 4, 2, 0, 0, 0, 0, [], none, []),
  (43, .iload 4, 2, 0, 0, 0, 0, [], none, []),
  (45, .aload_n 0, 1, 0, 0, 0, 0, [], none, []),
  (46, .getfield 65, 3, 6, 5, 0, 0, [], none, [350]),
  (49, .if_icmp .ge 90, 3, 139, 0, 0, 0, [], none, []),
  (52, .aload_n 0, 1, 0, 0, 0, 0, [], none, []),
  (53, .getfield 15, 3, 6, 1, 0, 0, [], none, [346]),
  (56, .iload 4, 2, 0, 0, 0, 0, [], none, []),
  (58, .baload, 1, 0, 0, 0, 0, [], none, []),
  (59, .ifCond .eq 6, 3, 65, 0, 0, 0, [], none, []),
  (62, .goto 71, 3, 133, 0, 0, 0, [], none, []),
  (65, .aload_n 0, 1, 0, 0, 0, 0, [], none, []),
  (66, .getfield 21, 3, 6, 2, 0, 0, [], none, [347]),
  (69, .iload_n 2, 1, 0, 0, 0, 0, [], none, []),
  (70, .aload_n 0, 1, 0, 0, 0, 0, [], none, []),
  (71, .getfield 11, 3, 6, 0, 0, 0, [], none, [345]),
  (74, .iload 4, 2, 0, 0, 0, 0, [], none, []),
  (76, .iaload, 1, 0, 0, 0, 0, [], none, []),
  (77, .iastore, 1, 0, 0, 0, 0, [], none, []),
  (78, .aload_n 0, 1, 0, 0, 0, 0, [], none, []),
  (79, .getfield 27, 3, 6, 4, 0, 0, [], none, [349]),
  (82, .aload_n 1, 1, 0, 0, 0, 0, [], none, []),
  (83, .aload_n 0, 1, 0, 0, 0, 0, [], none, []),
  (84, .getfield 21, 3, 6, 2, 0, 0, [], none, [347]),
  (87, .iload_n 2, 1, 0, 0, 0, 0, [], none, []),
  (88, .invokevirtual 74, 3, 1, 3, 0, 0, [], some m_Ha_isPeacefulAt, [928, 880, 881, 72, 882]),
  (91, .ifCond .eq 42, 3, 133, 0, 0, 0, [], none, []),
  (94, .aload_n 0, 1, 0, 0, 0, 0, [], none, []),
  (95, .getfield 15, 3, 6, 1, 0, 0, [], none, [346]),
  (98, .iload 4, 2, 0, 0, 0, 0, [], none, []),
  (100, .iconst 1, 1, 0, 0, 1, 0, [], none, []),
  (101, .bastore, 1, 0, 0, 0, 0, [], none, []),
  (102, .aload_n 0, 1, 0, 0, 0, 0, [], none, []),
  (103, .aload_n 1, 1, 0, 0, 0, 0, [], none, []),
  (104, .iload_n 2, 1, 0, 0, 0, 0, [], none, []),
  (105, .iconst 1, 1, 0, 0, 1, 0, [], none, []),
  (106, .iadd, 1, 0, 0, 0, 0, [], none, []),
  (107, .iload_n 3, 1, 0, 0, 0, 0, [], none, []),
  (108, .aload_n 0, 1, 0, 0, 0, 0, [], none, []),
  (109, .getfield 27, 3, 6, 4, 0, 0, [], none, [349]),
  (112, .aload_n 1, 1, 0, 0, 0, 0, [], none, []),
  (113, .aload_n 0, 1, 0, 0, 0, 0, [], none, []),
  (114, .getfield 21, 3, 6, 2, 0, 0, [], none, [347]),
  (117, .iload_n 2, 1, 0, 0, 0, 0, [], none, []),
  (118, .invokevirtual 78, 3, 1, 3, 0, 0, [], some m_Ha_priceAt, [929, 846, 847, 72, 848]),
  (121, .iadd, 1, 0, 0, 0, 0, [], none, []),
  (122, .invokevirtual 52, 3, 6, 3, 0, 0, [], some m_Se_fillFrom, [921, 923, 31, 74, 924]),
  (125, .aload_n 0, 1, 0, 0, 0, 0, [], none, []),
  (126, .getfield 15, 3, 6, 1, 0, 0, [], none, [346]),
  (129, .iload 4, 2, 0, 0, 0, 0, [], none, []),
  (131, .iconst 0, 1, 0, 0, 0, 0, [], none, []),
  (132, .bastore, 1, 0, 0, 0, 0, [], none, []),
  (133, .iinc 4 1, 3, 0, 0, 1, 0, [], none, []),
  (136, .goto (-93), 3, 43, 0, 0, 0, [], none, []),
  (139, .return_, 1, 0, 0, 0, 0, [], none, [])]
theorem k_Se_fillFrom : zOK m_Se_fillFrom P_Se_fillFrom := (by decide +kernel : P_Se_fillFrom.all (zchk m_Se_fillFrom.1.cls m_Se_fillFrom.2.1) = true)

def P_De_state : List zEn := [
  (0, .iload_n 1, 1, 0, 0, 0, 0, [], none, []),
  (1, .iload_n 2, 1, 0, 0, 0, 0, [], none, []),
  (2, .invokestatic 64, 3, 0, 2, 0, 0, [], some m_Ro_isStateAsTold, [418, 419, 67, 420]),
  (5, .ifCond .ne 6, 3, 11, 0, 0, 0, [], none, []),
  (8, .bipush (-2), 2, 0, 0, -2, 0, [], none, []),
  (10, .ireturn, 1, 0, 0, 0, 0, [], none, []),
  (11, .aload_n 0, 1, 0, 0, 0, 0, [], none, []),
  (12, .getfield 10, 3, 9, 0, 0, 0, [], none, [392]),
  (15, .getfield 68, 3, 3, 0, 0, 0, [], none, [101]),
  (18, .bipush 10, 2, 0, 0, 10, 0, [], none, []),
  (20, .if_icmp .ge 15, 3, 35, 0, 0, 0, [], none, []),
  (23, .aload_n 0, 1, 0, 0, 0, 0, [], none, []),
  (24, .getfield 10, 3, 9, 0, 0, 0, [], none, [392]),
  (27, .iload_n 1, 1, 0, 0, 0, 0, [], none, []),
  (28, .iload_n 2, 1, 0, 0, 0, 0, [], none, []),
  (29, .invokevirtual 72, 3, 3, 2, 0, 0, [], some m_Ro_addState, [424, 425, 426, 67, 427]),
  (32, .goto 5, 3, 37, 0, 0, 0, [], none, []),
  (35, .bipush (-4), 2, 0, 0, -4, 0, [], none, []),
  (37, .ireturn, 1, 0, 0, 0, 0, [], none, [])]
theorem k_De_state : zOK m_De_state P_De_state := (by decide +kernel : P_De_state.all (zchk m_De_state.1.cls m_De_state.2.1) = true)

def P_De_person : List zEn := [
  (0, .aload_n 0, 1, 0, 0, 0, 0, [], none, []),
  (1, .getfield 10, 3, 9, 0, 0, 0, [], none, [392]),
  (4, .iload_n 1, 1, 0, 0, 0, 0, [], none, []),
  (5, .invokevirtual 76, 3, 3, 1, 0, 0, [], some m_Ro_hasState, [432, 433, 434, 67, 435]),
  (8, .ifCond .ne 5, 3, 13, 0, 0, 0, [], none, []),
  (11, .iconst (-1), 1, 0, 0, -1, 0, [], none, []),
  (12, .ireturn, 1, 0, 0, 0, 0, [], none, []),
  (13, .iload_n 2, 1, 0, 0, 0, 0, [], none, []),
  (14, .invokestatic 80, 3, 0, 1, 0, 0, [], some m_Ro_isOfAnother, [436, 437, 67, 438]),
  (17, .istore 6, 2, 0, 0, 0, 0, [], none, []),
  (19, .iload 6, 2, 0, 0, 0, 0, [], none, []),
  (21, .ifCond .eq 17, 3, 38, 0, 0, 0, [], none, []),
  (24, .aload_n 0, 1, 0, 0, 0, 0, [], none, []),
  (25, .getfield 10, 3, 9, 0, 0, 0, [], none, [392]),
  (28, .iload 5, 2, 0, 0, 0, 0, [], none, []),
  (30, .invokevirtual 83, 3, 3, 1, 0, 0, [], some m_Ro_hasPerson, [439, 440, 441, 67, 442]),
  (33, .ifCond .ne 5, 3, 38, 0, 0, 0, [], none, []),
  (36, .iconst (-1), 1, 0, 0, -1, 0, [], none, []),
  (37, .ireturn, 1, 0, 0, 0, 0, [], none, []),
  (38, .iload 6, 2, 0, 0, 0, 0, [], none, []),
  (40, .ifCond .eq 16, 3, 56, 0, 0, 0, [], none, []),
  (43, .aload_n 0, 1, 0, 0, 0, 0, [], none, []),
  (44, .getfield 10, 3, 9, 0, 0, 0, [], none, [392]),
  (47, .iload_n 2, 1, 0, 0, 0, 0, [], none, []),
  (48, .iload 5, 2, 0, 0, 0, 0, [], none, []),
  (50, .invokevirtual 86, 3, 3, 2, 0, 0, [], some m_Ro_canBeOf, [443, 444, 445, 67, 446]),
  (53, .goto 13, 3, 66, 0, 0, 0, [], none, []),
  (56, .iload 5, 2, 0, 0, 0, 0, [], none, []),
  (58, .ifCond .ne 7, 3, 65, 0, 0, 0, [], none, []),
  (61, .iconst 1, 1, 0, 0, 1, 0, [], none, []),
  (62, .goto 4, 3, 66, 0, 0, 0, [], none, []),
  (65, .iconst 0, 1, 0, 0, 0, 0, [], none, []),
  (66, .istore 7, 2, 0, 0, 0, 0, [], none, []),
  (68, .iload 7, 2, 0, 0, 0, 0, [], none, []),
  (70, .ifCond .eq 13, 3, 83, 0, 0, 0, [], none, []),
  (73, .iload_n 2, 1, 0, 0, 0, 0, [], none, []),
  (74, .iload_n 3, 1, 0, 0, 0, 0, [], none, []),
  (75, .iload 4, 2, 0, 0, 0, 0, [], none, []),
  (77, .invokestatic 89, 3, 0, 3, 0, 0, [], some m_Ro_isPersonAsTold, [451, 452, 67, 453]),
  (80, .ifCond .ne 6, 3, 86, 0, 0, 0, [], none, []),
  (83, .bipush (-2), 2, 0, 0, -2, 0, [], none, []),
  (85, .ireturn, 1, 0, 0, 0, 0, [], none, []),
  (86, .aload_n 0, 1, 0, 0, 0, 0, [], none, []),
  (87, .getfield 10, 3, 9, 0, 0, 0, [], none, [392]),
  (90, .getfield 93, 3, 3, 1, 0, 0, [], none, [104]),
  (93, .bipush 20, 2, 0, 0, 20, 0, [], none, []),
  (95, .if_icmp .lt 6, 3, 101, 0, 0, 0, [], none, []),
  (98, .bipush (-4), 2, 0, 0, -4, 0, [], none, []),
  (100, .ireturn, 1, 0, 0, 0, 0, [], none, []),
  (101, .aload_n 0, 1, 0, 0, 0, 0, [], none, []),
  (102, .getfield 10, 3, 9, 0, 0, 0, [], none, [392]),
  (105, .iload_n 1, 1, 0, 0, 0, 0, [], none, []),
  (106, .iload_n 2, 1, 0, 0, 0, 0, [], none, []),
  (107, .iload_n 3, 1, 0, 0, 0, 0, [], none, []),
  (108, .iload 4, 2, 0, 0, 0, 0, [], none, []),
  (110, .iload 6, 2, 0, 0, 0, 0, [], none, []),
  (112, .ifCond .eq 8, 3, 120, 0, 0, 0, [], none, []),
  (115, .iload 5, 2, 0, 0, 0, 0, [], none, []),
  (117, .goto 4, 3, 121, 0, 0, 0, [], none, []),
  (120, .iconst (-1), 1, 0, 0, -1, 0, [], none, []),
  (121, .invokevirtual 96, 3, 3, 5, 0, 0, [], some m_Ro_addPerson, [454, 455, 456, 67, 457]),
  (124, .ireturn, 1, 0, 0, 0, 0, [], none, [])]
theorem k_De_person : zOK m_De_person P_De_person := (by decide +kernel : P_De_person.all (zchk m_De_person.1.cls m_De_person.2.1) = true)

def P_De_paper : List zEn := [
  (0, .aload_n 0, 1, 0, 0, 0, 0, [], none, []),
  (1, .getfield 10, 3, 9, 0, 0, 0, [], none, [392]),
  (4, .iload_n 1, 1, 0, 0, 0, 0, [], none, []),
  (5, .invokevirtual 83, 3, 3, 1, 0, 0, [], some m_Ro_hasPerson, [439, 440, 441, 67, 442]),
  (8, .ifCond .ne 5, 3, 13, 0, 0, 0, [], none, []),
  (11, .iconst (-1), 1, 0, 0, -1, 0, [], none, []),
  (12, .ireturn, 1, 0, 0, 0, 0, [], none, []),
  (13, .iload_n 2, 1, 0, 0, 0, 0, [], none, []),
  (14, .ifCond .lt 9, 3, 23, 0, 0, 0, [], none, []),
  (17, .iload_n 2, 1, 0, 0, 0, 0, [], none, []),
  (18, .ldc 100, 2, 0, 0, 99999999, 0, [], none, [486]),
  (20, .if_icmp .le 6, 3, 26, 0, 0, 0, [], none, []),
  (23, .bipush (-2), 2, 0, 0, -2, 0, [], none, []),
  (25, .ireturn, 1, 0, 0, 0, 0, [], none, []),
  (26, .aload_n 0, 1, 0, 0, 0, 0, [], none, []),
  (27, .getfield 10, 3, 9, 0, 0, 0, [], none, [392]),
  (30, .iload_n 1, 1, 0, 0, 0, 0, [], none, []),
  (31, .iload_n 2, 1, 0, 0, 0, 0, [], none, []),
  (32, .invokevirtual 101, 3, 3, 2, 0, 0, [], some m_Ro_handPaper, [487, 488, 489, 67, 490]),
  (35, .ireturn, 1, 0, 0, 0, 0, [], none, [])]
theorem k_De_paper : zOK m_De_paper P_De_paper := (by decide +kernel : P_De_paper.all (zchk m_De_paper.1.cls m_De_paper.2.1) = true)

def P_De_there : List zEn := [
  (0, .aload_n 0, 1, 0, 0, 0, 0, [], none, []),
  (1, .getfield 10, 3, 9, 0, 0, 0, [], none, [392]),
  (4, .iload_n 1, 1, 0, 0, 0, 0, [], none, []),
  (5, .invokevirtual 83, 3, 3, 1, 0, 0, [], some m_Ro_hasPerson, [439, 440, 441, 67, 442]),
  (8, .ifCond .ne 5, 3, 13, 0, 0, 0, [], none, []),
  (11, .iconst (-1), 1, 0, 0, -1, 0, [], none, []),
  (12, .ireturn, 1, 0, 0, 0, 0, [], none, []),
  (13, .iload_n 2, 1, 0, 0, 0, 0, [], none, []),
  (14, .ifCond .eq 11, 3, 25, 0, 0, 0, [], none, []),
  (17, .iload_n 2, 1, 0, 0, 0, 0, [], none, []),
  (18, .iconst 1, 1, 0, 0, 1, 0, [], none, []),
  (19, .if_icmp .eq 6, 3, 25, 0, 0, 0, [], none, []),
  (22, .bipush (-2), 2, 0, 0, -2, 0, [], none, []),
  (24, .ireturn, 1, 0, 0, 0, 0, [], none, []),
  (25, .aload_n 0, 1, 0, 0, 0, 0, [], none, []),
  (26, .getfield 10, 3, 9, 0, 0, 0, [], none, [392]),
  (29, .getfield 104, 3, 3, 2, 0, 0, [], none, [108]),
  (32, .iload_n 1, 1, 0, 0, 0, 0, [], none, []),
  (33, .iaload, 1, 0, 0, 0, 0, [], none, []),
  (34, .istore_n 3, 1, 0, 0, 0, 0, [], none, []),
  (35, .aload_n 0, 1, 0, 0, 0, 0, [], none, []),
  (36, .getfield 10, 3, 9, 0, 0, 0, [], none, [392]),
  (39, .getfield 104, 3, 3, 2, 0, 0, [], none, [108]),
  (42, .iload_n 1, 1, 0, 0, 0, 0, [], none, []),
  (43, .iload_n 2, 1, 0, 0, 0, 0, [], none, []),
  (44, .iastore, 1, 0, 0, 0, 0, [], none, []),
  (45, .iload_n 2, 1, 0, 0, 0, 0, [], none, []),
  (46, .ifCond .ne 11, 3, 57, 0, 0, 0, [], none, []),
  (49, .aload_n 0, 1, 0, 0, 0, 0, [], none, []),
  (50, .getfield 44, 3, 9, 4, 0, 0, [], none, [396]),
  (53, .iload_n 1, 1, 0, 0, 0, 0, [], none, []),
  (54, .invokevirtual 108, 3, 1, 1, 0, 0, [], some m_Ha_emptySeatsOf, [495, 496, 497, 72, 498]),
  (57, .iload_n 3, 1, 0, 0, 0, 0, [], none, []),
  (58, .ireturn, 1, 0, 0, 0, 0, [], none, [])]
theorem k_De_there : zOK m_De_there P_De_there := (by decide +kernel : P_De_there.all (zchk m_De_there.1.cls m_De_there.2.1) = true)

def P_De_split : List zEn := [
  (0, .aload_n 0, 1, 0, 0, 0, 0, [], none, []),
  (1, .getfield 10, 3, 9, 0, 0, 0, [], none, [392]),
  (4, .iload_n 1, 1, 0, 0, 0, 0, [], none, []),
  (5, .invokevirtual 76, 3, 3, 1, 0, 0, [], some m_Ro_hasState, [432, 433, 434, 67, 435]),
  (8, .ifCond .ne 5, 3, 13, 0, 0, 0, [], none, []),
  (11, .iconst (-1), 1, 0, 0, -1, 0, [], none, []),
  (12, .ireturn, 1, 0, 0, 0, 0, [], none, []),
  (13, .iload_n 2, 1, 0, 0, 0, 0, [], none, []),
  (14, .iload_n 3, 1, 0, 0, 0, 0, [], none, []),
  (15, .invokestatic 64, 3, 0, 2, 0, 0, [], some m_Ro_isStateAsTold, [418, 419, 67, 420]),
  (18, .ifCond .eq 15, 3, 33, 0, 0, 0, [], none, []),
  (21, .aload_n 0, 1, 0, 0, 0, 0, [], none, []),
  (22, .getfield 10, 3, 9, 0, 0, 0, [], none, [392]),
  (25, .iload 4, 2, 0, 0, 0, 0, [], none, []),
  (27, .invokevirtual 112, 3, 3, 1, 0, 0, [], some m_Ro_isSetOfPersons, [507, 508, 509, 67, 510]),
  (30, .ifCond .ne 6, 3, 36, 0, 0, 0, [], none, []),
  (33, .bipush (-2), 2, 0, 0, -2, 0, [], none, []),
  (35, .ireturn, 1, 0, 0, 0, 0, [], none, []),
  (36, .aload_n 0, 1, 0, 0, 0, 0, [], none, []),
  (37, .getfield 10, 3, 9, 0, 0, 0, [], none, [392]),
  (40, .getfield 68, 3, 3, 0, 0, 0, [], none, [101]),
  (43, .bipush 10, 2, 0, 0, 10, 0, [], none, []),
  (45, .if_icmp .lt 6, 3, 51, 0, 0, 0, [], none, []),
  (48, .bipush (-4), 2, 0, 0, -4, 0, [], none, []),
  (50, .ireturn, 1, 0, 0, 0, 0, [], none, []),
  (51, .aload_n 0, 1, 0, 0, 0, 0, [], none, []),
  (52, .getfield 10, 3, 9, 0, 0, 0, [], none, [392]),
  (55, .iload_n 2, 1, 0, 0, 0, 0, [], none, []),
  (56, .iload_n 3, 1, 0, 0, 0, 0, [], none, []),
  (57, .invokevirtual 72, 3, 3, 2, 0, 0, [], some m_Ro_addState, [424, 425, 426, 67, 427]),
  (60, .istore 5, 2, 0, 0, 0, 0, [], none, []),
  (62, .aload_n 0, 1, 0, 0, 0, 0, [], none, []),
  (63, .getfield 10, 3, 9, 0, 0, 0, [], none, [392]),
  (66, .iload_n 1, 1, 0, 0, 0, 0, [], none, []),
  (67, .iload 5, 2, 0, 0, 0, 0, [], none, []),
  (69, .iload 4, 2, 0, 0, 0, 0, [], none, []),
  (71, .invokevirtual 115, 3, 3, 3, 0, 0, [], some m_Ro_moveHome, [511, 512, 513, 67, 514]),
  (74, .iload 5, 2, 0, 0, 0, 0, [], none, []),
  (76, .ireturn, 1, 0, 0, 0, 0, [], none, [])]
theorem k_De_split : zOK m_De_split P_De_split := (by decide +kernel : P_De_split.all (zchk m_De_split.1.cls m_De_split.2.1) = true)

def P_De_about : List zEn := [
  (0, .aload_n 0, 1, 0, 0, 0, 0, [], none, []),
  (1, .getfield 10, 3, 9, 0, 0, 0, [], none, [392]),
  (4, .iload_n 1, 1, 0, 0, 0, 0, [], none, []),
  (5, .invokevirtual 83, 3, 3, 1, 0, 0, [], some m_Ro_hasPerson, [439, 440, 441, 67, 442]),
  (8, .ifCond .ne 5, 3, 13, 0, 0, 0, [], none, []),
  (11, .iconst (-1), 1, 0, 0, -1, 0, [], none, []),
  (12, .ireturn, 1, 0, 0, 0, 0, [], none, []),
  (13, .iload_n 2, 1, 0, 0, 0, 0, [], none, []),
  (14, .tableswitch 155 0 8 #[50, 62, 74, 86, 98, 110, 122, 135, 145], 50, 169, 0, 0, 0, [(0, 64), (1, 76), (2, 88), (3, 100), (4, 112), (5, 124), (6, 136), (7, 149), (8, 159)], none, []),
  (64, .aload_n 0, 1, 0, 0, 0, 0, [], none, []),
  (65, .getfield 10, 3, 9, 0, 0, 0, [], none, [392]),
  (68, .getfield 119, 3, 3, 4, 0, 0, [], none, [113]),
  (71, .iload_n 1, 1, 0, 0, 0, 0, [], none, []),
  (72, .aaload, 1, 0, 0, 0, 0, [], none, []),
  (73, .iconst 4, 1, 0, 0, 4, 0, [], none, []),
  (74, .iaload, 1, 0, 0, 0, 0, [], none, []),
  (75, .ireturn, 1, 0, 0, 0, 0, [], none, []),
  (76, .aload_n 0, 1, 0, 0, 0, 0, [], none, []),
  (77, .getfield 10, 3, 9, 0, 0, 0, [], none, [392]),
  (80, .getfield 119, 3, 3, 4, 0, 0, [], none, [113]),
  (83, .iload_n 1, 1, 0, 0, 0, 0, [], none, []),
  (84, .aaload, 1, 0, 0, 0, 0, [], none, []),
  (85, .iconst 0, 1, 0, 0, 0, 0, [], none, []),
  (86, .iaload, 1, 0, 0, 0, 0, [], none, []),
  (87, .ireturn, 1, 0, 0, 0, 0, [], none, []),
  (88, .aload_n 0, 1, 0, 0, 0, 0, [], none, []),
  (89, .getfield 10, 3, 9, 0, 0, 0, [], none, [392]),
  (92, .getfield 119, 3, 3, 4, 0, 0, [], none, [113]),
  (95, .iload_n 1, 1, 0, 0, 0, 0, [], none, []),
  (96, .aaload, 1, 0, 0, 0, 0, [], none, []),
  (97, .iconst 1, 1, 0, 0, 1, 0, [], none, []),
  (98, .iaload, 1, 0, 0, 0, 0, [], none, []),
  (99, .ireturn, 1, 0, 0, 0, 0, [], none, []),
  (100, .aload_n 0, 1, 0, 0, 0, 0, [], none, []),
  (101, .getfield 10, 3, 9, 0, 0, 0, [], none, [392]),
  (104, .getfield 119, 3, 3, 4, 0, 0, [], none, [113]),
  (107, .iload_n 1, 1, 0, 0, 0, 0, [], none, []),
  (108, .aaload, 1, 0, 0, 0, 0, [], none, []),
  (109, .iconst 2, 1, 0, 0, 2, 0, [], none, []),
  (110, .iaload, 1, 0, 0, 0, 0, [], none, []),
  (111, .ireturn, 1, 0, 0, 0, 0, [], none, []),
  (112, .aload_n 0, 1, 0, 0, 0, 0, [], none, []),
  (113, .getfield 10, 3, 9, 0, 0, 0, [], none, [392]),
  (116, .getfield 119, 3, 3, 4, 0, 0, [], none, [113]),
  (119, .iload_n 1, 1, 0, 0, 0, 0, [], none, []),
  (120, .aaload, 1, 0, 0, 0, 0, [], none, []),
  (121, .iconst 3, 1, 0, 0, 3, 0, [], none, []),
  (122, .iaload, 1, 0, 0, 0, 0, [], none, []),
  (123, .ireturn, 1, 0, 0, 0, 0, [], none, []),
  (124, .aload_n 0, 1, 0, 0, 0, 0, [], none, []),
  (125, .getfield 10, 3, 9, 0, 0, 0, [], none, [392]),
  (128, .getfield 119, 3, 3, 4, 0, 0, [], none, [113]),
  (131, .iload_n 1, 1, 0, 0, 0, 0, [], none, []),
  (132, .aaload, 1, 0, 0, 0, 0, [], none, []),
  (133, .iconst 5, 1, 0, 0, 5, 0, [], none, []),
  (134, .iaload, 1, 0, 0, 0, 0, [], none, []),
  (135, .ireturn, 1, 0, 0, 0, 0, [], none, []),
  (136, .aload_n 0, 1, 0, 0, 0, 0, [], none, []),
  (137, .getfield 10, 3, 9, 0, 0, 0, [], none, [392]),
  (140, .getfield 119, 3, 3, 4, 0, 0, [], none, [113]),
  (143, .iload_n 1, 1, 0, 0, 0, 0, [], none, []),
  (144, .aaload, 1, 0, 0, 0, 0, [], none, []),
  (145, .bipush 6, 2, 0, 0, 6, 0, [], none, []),
  (147, .iaload, 1, 0, 0, 0, 0, [], none, []),
  (148, .ireturn, 1, 0, 0, 0, 0, [], none, []),
  (149, .aload_n 0, 1, 0, 0, 0, 0, [], none, []),
  (150, .getfield 10, 3, 9, 0, 0, 0, [], none, [392]),
  (153, .getfield 104, 3, 3, 2, 0, 0, [], none, [108]),
  (156, .iload_n 1, 1, 0, 0, 0, 0, [], none, []),
  (157, .iaload, 1, 0, 0, 0, 0, [], none, []),
  (158, .ireturn, 1, 0, 0, 0, 0, [], none, []),
  (159, .aload_n 0, 1, 0, 0, 0, 0, [], none, []),
  (160, .getfield 10, 3, 9, 0, 0, 0, [], none, [392]),
  (163, .getfield 123, 3, 3, 3, 0, 0, [], none, [110]),
  (166, .iload_n 1, 1, 0, 0, 0, 0, [], none, []),
  (167, .iaload, 1, 0, 0, 0, 0, [], none, []),
  (168, .ireturn, 1, 0, 0, 0, 0, [], none, []),
  (169, .iconst (-1), 1, 0, 0, -1, 0, [], none, []),
  (170, .ireturn, 1, 0, 0, 0, 0, [], none, [])]
theorem k_De_about : zOK m_De_about P_De_about := (by decide +kernel : P_De_about.all (zchk m_De_about.1.cls m_De_about.2.1) = true)

def P_De_feed : List zEn := [
  (0, .iload_n 3, 1, 0, 0, 0, 0, [], none, []),
  (1, .iconst 1, 1, 0, 0, 1, 0, [], none, []),
  (2, .if_icmp .lt 9, 3, 11, 0, 0, 0, [], none, []),
  (5, .iload_n 3, 1, 0, 0, 0, 0, [], none, []),
  (6, .bipush 8, 2, 0, 0, 8, 0, [], none, []),
  (8, .if_icmp .le 6, 3, 14, 0, 0, 0, [], none, []),
  (11, .bipush (-2), 2, 0, 0, -2, 0, [], none, []),
  (13, .ireturn, 1, 0, 0, 0, 0, [], none, []),
  (14, .aload_n 0, 1, 0, 0, 0, 0, [], none, []),
  (15, .getfield 19, 3, 9, 1, 0, 0, [], none, [393]),
  (18, .getfield 126, 3, 8, 0, 0, 0, [], none, [146]),
  (21, .iload_n 3, 1, 0, 0, 0, 0, [], none, []),
  (22, .iadd, 1, 0, 0, 0, 0, [], none, []),
  (23, .sipush 200, 3, 0, 0, 200, 0, [], none, []),
  (26, .if_icmp .gt 15, 3, 41, 0, 0, 0, [], none, []),
  (29, .aload_n 0, 1, 0, 0, 0, 0, [], none, []),
  (30, .getfield 19, 3, 9, 1, 0, 0, [], none, [393]),
  (33, .lload_n 1, 1, 0, 0, 0, 0, [], none, []),
  (34, .iload_n 3, 1, 0, 0, 0, 0, [], none, []),
  (35, .invokevirtual 129, 3, 8, 2, 0, 0, [], some m_Tp_append, [526, 527, 528, 68, 529]),
  (38, .goto 5, 3, 43, 0, 0, 0, [], none, []),
  (41, .bipush (-4), 2, 0, 0, -4, 0, [], none, []),
  (43, .ireturn, 1, 0, 0, 0, 0, [], none, [])]
theorem k_De_feed : zOK m_De_feed P_De_feed := (by decide +kernel : P_De_feed.all (zchk m_De_feed.1.cls m_De_feed.2.1) = true)

def P_De_wipe : List zEn := [
  (0, .aload_n 0, 1, 0, 0, 0, 0, [], none, []),
  (1, .getfield 19, 3, 9, 1, 0, 0, [], none, [393]),
  (4, .invokevirtual 133, 3, 8, 0, 0, 0, [], some m_Tp_clear, [534, 535, 536, 68, 537]),
  (7, .ireturn, 1, 0, 0, 0, 0, [], none, [])]
theorem k_De_wipe : zOK m_De_wipe P_De_wipe := (by decide +kernel : P_De_wipe.all (zchk m_De_wipe.1.cls m_De_wipe.2.1) = true)

def P_De_rule : List zEn := [
  (0, .iload_n 1, 1, 0, 0, 0, 0, [], none, []),
  (1, .ifCond .lt 15, 3, 16, 0, 0, 0, [], none, []),
  (4, .iload_n 1, 1, 0, 0, 0, 0, [], none, []),
  (5, .iload_n 2, 1, 0, 0, 0, 0, [], none, []),
  (6, .if_icmp .ge 10, 3, 16, 0, 0, 0, [], none, []),
  (9, .iload_n 2, 1, 0, 0, 0, 0, [], none, []),
  (10, .sipush 10000, 3, 0, 0, 10000, 0, [], none, []),
  (13, .if_icmp .le 6, 3, 19, 0, 0, 0, [], none, []),
  (16, .bipush (-2), 2, 0, 0, -2, 0, [], none, []),
  (18, .ireturn, 1, 0, 0, 0, 0, [], none, []),
  (19, .aload_n 0, 1, 0, 0, 0, 0, [], none, []),
  (20, .getfield 28, 3, 9, 2, 0, 0, [], none, [394]),
  (23, .getfield 137, 3, 5, 0, 0, 0, [], none, [224]),
  (26, .bipush 16, 2, 0, 0, 16, 0, [], none, []),
  (28, .if_icmp .lt 6, 3, 34, 0, 0, 0, [], none, []),
  (31, .bipush (-4), 2, 0, 0, -4, 0, [], none, []),
  (33, .ireturn, 1, 0, 0, 0, 0, [], none, []),
  (34, .aload_n 0, 1, 0, 0, 0, 0, [], none, []),
  (35, .getfield 28, 3, 9, 2, 0, 0, [], none, [394]),
  (38, .getfield 140, 3, 5, 2, 0, 0, [], none, [228]),
  (41, .aload_n 0, 1, 0, 0, 0, 0, [], none, []),
  (42, .getfield 28, 3, 9, 2, 0, 0, [], none, [394]),
  (45, .getfield 137, 3, 5, 0, 0, 0, [], none, [224]),
  (48, .aaload, 1, 0, 0, 0, 0, [], none, []),
  (49, .astore_n 3, 1, 0, 0, 0, 0, [], none, []),
  (50, .aload_n 0, 1, 0, 0, 0, 0, [], none, []),
  (51, .getfield 19, 3, 9, 1, 0, 0, [], none, [393]),
  (54, .aload_n 3, 1, 0, 0, 0, 0, [], none, []),
  (55, .invokevirtual 144, 3, 8, 1, 0, 0, [], some m_Tp_readInto, [542, 543, 544, 68, 545]),
  (58, .istore 4, 2, 0, 0, 0, 0, [], none, []),
  (60, .aload_n 0, 1, 0, 0, 0, 0, [], none, []),
  (61, .getfield 19, 3, 9, 1, 0, 0, [], none, [393]),
  (64, .invokevirtual 133, 3, 8, 0, 0, 0, [], some m_Tp_clear, [534, 535, 536, 68, 537]),
  (67, .pop, 1, 0, 0, 0, 0, [], none, []),
  (68, .iload 4, 2, 0, 0, 0, 0, [], none, []),
  (70, .iconst (-1), 1, 0, 0, -1, 0, [], none, []),
  (71, .if_icmp .eq 9, 3, 80, 0, 0, 0, [], none, []),
  (74, .bipush (-10), 2, 0, 0, -10, 0, [], none, []),
  (76, .iload 4, 2, 0, 0, 0, 0, [], none, []),
  (78, .isub, 1, 0, 0, 0, 0, [], none, []),
  (79, .ireturn, 1, 0, 0, 0, 0, [], none, []),
  (80, .aload_n 3, 1, 0, 0, 0, 0, [], none, []),
  (81, .iload_n 1, 1, 0, 0, 0, 0, [], none, []),
  (82, .putfield 148, 3, 4, 5, 0, 0, [], none, [184]),
  (85, .aload_n 3, 1, 0, 0, 0, 0, [], none, []),
  (86, .iload_n 2, 1, 0, 0, 0, 0, [], none, []),
  (87, .putfield 153, 3, 4, 6, 0, 0, [], none, [186]),
  (90, .aload_n 0, 1, 0, 0, 0, 0, [], none, []),
  (91, .getfield 28, 3, 9, 2, 0, 0, [], none, [394]),
  (94, .dup, 1, 0, 0, 0, 0, [], none, []),
  (95, .getfield 137, 3, 5, 0, 0, 0, [], none, [224]),
  (98, .iconst 1, 1, 0, 0, 1, 0, [], none, []),
  (99, .iadd, 1, 0, 0, 0, 0, [], none, []),
  (100, .putfield 137, 3, 5, 0, 0, 0, [], none, [224]),
  (103, .aload_n 0, 1, 0, 0, 0, 0, [], none, []),
  (104, .getfield 28, 3, 9, 2, 0, 0, [], none, [394]),
  (107, .getfield 137, 3, 5, 0, 0, 0, [], none, [224]),
  (110, .iconst 1, 1, 0, 0, 1, 0, [], none, []),
  (111, .isub, 1, 0, 0, 0, 0, [], none, []),
  (112, .ireturn, 1, 0, 0, 0, 0, [], none, [])]
theorem k_De_rule : zOK m_De_rule P_De_rule := (by decide +kernel : P_De_rule.all (zchk m_De_rule.1.cls m_De_rule.2.1) = true)

def P_De_ends : List zEn := [
  (0, .aload_n 0, 1, 0, 0, 0, 0, [], none, []),
  (1, .getfield 28, 3, 9, 2, 0, 0, [], none, [394]),
  (4, .iload_n 1, 1, 0, 0, 0, 0, [], none, []),
  (5, .invokevirtual 156, 3, 5, 1, 0, 0, [], some m_Bo_hasRule, [654, 655, 656, 69, 657]),
  (8, .ifCond .ne 5, 3, 13, 0, 0, 0, [], none, []),
  (11, .iconst (-1), 1, 0, 0, -1, 0, [], none, []),
  (12, .ireturn, 1, 0, 0, 0, 0, [], none, []),
  (13, .aload_n 0, 1, 0, 0, 0, 0, [], none, []),
  (14, .getfield 28, 3, 9, 2, 0, 0, [], none, [394]),
  (17, .getfield 140, 3, 5, 2, 0, 0, [], none, [228]),
  (20, .iload_n 1, 1, 0, 0, 0, 0, [], none, []),
  (21, .aaload, 1, 0, 0, 0, 0, [], none, []),
  (22, .astore_n 3, 1, 0, 0, 0, 0, [], none, []),
  (23, .aload_n 3, 1, 0, 0, 0, 0, [], none, []),
  (24, .getfield 153, 3, 4, 6, 0, 0, [], none, [186]),
  (27, .istore 4, 2, 0, 0, 0, 0, [], none, []),
  (29, .iload_n 2, 1, 0, 0, 0, 0, [], none, []),
  (30, .aload_n 3, 1, 0, 0, 0, 0, [], none, []),
  (31, .getfield 148, 3, 4, 5, 0, 0, [], none, [184]),
  (34, .if_icmp .le 9, 3, 43, 0, 0, 0, [], none, []),
  (37, .iload_n 2, 1, 0, 0, 0, 0, [], none, []),
  (38, .iload 4, 2, 0, 0, 0, 0, [], none, []),
  (40, .if_icmp .lt 6, 3, 46, 0, 0, 0, [], none, []),
  (43, .bipush (-2), 2, 0, 0, -2, 0, [], none, []),
  (45, .ireturn, 1, 0, 0, 0, 0, [], none, []),
  (46, .aload_n 3, 1, 0, 0, 0, 0, [], none, []),
  (47, .iload_n 2, 1, 0, 0, 0, 0, [], none, []),
  (48, .putfield 153, 3, 4, 6, 0, 0, [], none, [186]),
  (51, .iload 4, 2, 0, 0, 0, 0, [], none, []),
  (53, .ireturn, 1, 0, 0, 0, 0, [], none, [])]
theorem k_De_ends : zOK m_De_ends P_De_ends := (by decide +kernel : P_De_ends.all (zchk m_De_ends.1.cls m_De_ends.2.1) = true)

def P_De_decides : List zEn := [
  (0, .aload_n 0, 1, 0, 0, 0, 0, [], none, []),
  (1, .getfield 28, 3, 9, 2, 0, 0, [], none, [394]),
  (4, .iload_n 1, 1, 0, 0, 0, 0, [], none, []),
  (5, .invokevirtual 156, 3, 5, 1, 0, 0, [], some m_Bo_hasRule, [654, 655, 656, 69, 657]),
  (8, .ifCond .eq 22, 3, 30, 0, 0, 0, [], none, []),
  (11, .iload_n 2, 1, 0, 0, 0, 0, [], none, []),
  (12, .iload_n 3, 1, 0, 0, 0, 0, [], none, []),
  (13, .invokestatic 159, 3, 0, 2, 0, 0, [], some m_De_isOccasion, [662, 663, 66, 664]),
  (16, .ifCond .eq 14, 3, 30, 0, 0, 0, [], none, []),
  (19, .aload_n 0, 1, 0, 0, 0, 0, [], none, []),
  (20, .iload 4, 2, 0, 0, 0, 0, [], none, []),
  (22, .iload 5, 2, 0, 0, 0, 0, [], none, []),
  (24, .invokevirtual 162, 3, 9, 2, 0, 0, [], some m_De_areTwo, [665, 667, 15, 66, 668]),
  (27, .ifCond .ne 6, 3, 33, 0, 0, 0, [], none, []),
  (30, .bipush (-2), 2, 0, 0, -2, 0, [], none, []),
  (32, .ireturn, 1, 0, 0, 0, 0, [], none, []),
  (33, .aload_n 0, 1, 0, 0, 0, 0, [], none, []),
  (34, .getfield 28, 3, 9, 2, 0, 0, [], none, [394]),
  (37, .getfield 140, 3, 5, 2, 0, 0, [], none, [228]),
  (40, .iload_n 1, 1, 0, 0, 0, 0, [], none, []),
  (41, .aaload, 1, 0, 0, 0, 0, [], none, []),
  (42, .aload_n 0, 1, 0, 0, 0, 0, [], none, []),
  (43, .getfield 10, 3, 9, 0, 0, 0, [], none, [392]),
  (46, .iload_n 2, 1, 0, 0, 0, 0, [], none, []),
  (47, .iload_n 3, 1, 0, 0, 0, 0, [], none, []),
  (48, .iload 4, 2, 0, 0, 0, 0, [], none, []),
  (50, .iload 5, 2, 0, 0, 0, 0, [], none, []),
  (52, .invokevirtual 165, 3, 4, 5, 0, 0, [], some m_Ru_verdict, [669, 670, 671, 70, 672]),
  (55, .ireturn, 1, 0, 0, 0, 0, [], none, [])]
theorem k_De_decides : zOK m_De_decides P_De_decides := (by decide +kernel : P_De_decides.all (zchk m_De_decides.1.cls m_De_decides.2.1) = true)

def P_De_hand : List zEn := [
  (0, .aload_n 0, 1, 0, 0, 0, 0, [], none, []),
  (1, .getfield 10, 3, 9, 0, 0, 0, [], none, [392]),
  (4, .iload_n 1, 1, 0, 0, 0, 0, [], none, []),
  (5, .invokevirtual 83, 3, 3, 1, 0, 0, [], some m_Ro_hasPerson, [439, 440, 441, 67, 442]),
  (8, .ifCond .eq 14, 3, 22, 0, 0, 0, [], none, []),
  (11, .aload_n 0, 1, 0, 0, 0, 0, [], none, []),
  (12, .getfield 10, 3, 9, 0, 0, 0, [], none, [392]),
  (15, .iload_n 2, 1, 0, 0, 0, 0, [], none, []),
  (16, .invokevirtual 83, 3, 3, 1, 0, 0, [], some m_Ro_hasPerson, [439, 440, 441, 67, 442]),
  (19, .ifCond .ne 5, 3, 24, 0, 0, 0, [], none, []),
  (22, .iconst (-1), 1, 0, 0, -1, 0, [], none, []),
  (23, .ireturn, 1, 0, 0, 0, 0, [], none, []),
  (24, .iload_n 1, 1, 0, 0, 0, 0, [], none, []),
  (25, .iload_n 2, 1, 0, 0, 0, 0, [], none, []),
  (26, .if_icmp .ne 6, 3, 32, 0, 0, 0, [], none, []),
  (29, .bipush (-2), 2, 0, 0, -2, 0, [], none, []),
  (31, .ireturn, 1, 0, 0, 0, 0, [], none, []),
  (32, .aload_n 0, 1, 0, 0, 0, 0, [], none, []),
  (33, .getfield 28, 3, 9, 2, 0, 0, [], none, [394]),
  (36, .getfield 169, 3, 5, 1, 0, 0, [], none, [226]),
  (39, .bipush 20, 2, 0, 0, 20, 0, [], none, []),
  (41, .if_icmp .ge 15, 3, 56, 0, 0, 0, [], none, []),
  (44, .aload_n 0, 1, 0, 0, 0, 0, [], none, []),
  (45, .getfield 28, 3, 9, 2, 0, 0, [], none, [394]),
  (48, .iload_n 1, 1, 0, 0, 0, 0, [], none, []),
  (49, .iload_n 2, 1, 0, 0, 0, 0, [], none, []),
  (50, .invokevirtual 172, 3, 5, 2, 0, 0, [], some m_Bo_addHand, [689, 690, 691, 69, 692]),
  (53, .goto 5, 3, 58, 0, 0, 0, [], none, []),
  (56, .bipush (-4), 2, 0, 0, -4, 0, [], none, []),
  (58, .ireturn, 1, 0, 0, 0, 0, [], none, [])]
theorem k_De_hand : zOK m_De_hand P_De_hand := (by decide +kernel : P_De_hand.all (zchk m_De_hand.1.cls m_De_hand.2.1) = true)

def P_De_ahead : List zEn := [
  (0, .iload_n 1, 1, 0, 0, 0, 0, [], none, []),
  (1, .iload_n 2, 1, 0, 0, 0, 0, [], none, []),
  (2, .invokestatic 159, 3, 0, 2, 0, 0, [], some m_De_isOccasion, [662, 663, 66, 664]),
  (5, .ifCond .eq 13, 3, 18, 0, 0, 0, [], none, []),
  (8, .aload_n 0, 1, 0, 0, 0, 0, [], none, []),
  (9, .iload_n 3, 1, 0, 0, 0, 0, [], none, []),
  (10, .iload 4, 2, 0, 0, 0, 0, [], none, []),
  (12, .invokevirtual 162, 3, 9, 2, 0, 0, [], some m_De_areTwo, [665, 667, 15, 66, 668]),
  (15, .ifCond .ne 6, 3, 21, 0, 0, 0, [], none, []),
  (18, .bipush (-2), 2, 0, 0, -2, 0, [], none, []),
  (20, .ireturn, 1, 0, 0, 0, 0, [], none, []),
  (21, .aload_n 0, 1, 0, 0, 0, 0, [], none, []),
  (22, .getfield 28, 3, 9, 2, 0, 0, [], none, [394]),
  (25, .iload_n 1, 1, 0, 0, 0, 0, [], none, []),
  (26, .iload_n 2, 1, 0, 0, 0, 0, [], none, []),
  (27, .iload_n 3, 1, 0, 0, 0, 0, [], none, []),
  (28, .iload 4, 2, 0, 0, 0, 0, [], none, []),
  (30, .invokevirtual 175, 3, 5, 4, 0, 0, [], some m_Bo_leader, [697, 698, 699, 69, 700]),
  (33, .ireturn, 1, 0, 0, 0, 0, [], none, [])]
theorem k_De_ahead : zOK m_De_ahead P_De_ahead := (by decide +kernel : P_De_ahead.all (zchk m_De_ahead.1.cls m_De_ahead.2.1) = true)

def P_De_why : List zEn := [
  (0, .iload_n 1, 1, 0, 0, 0, 0, [], none, []),
  (1, .iload_n 2, 1, 0, 0, 0, 0, [], none, []),
  (2, .invokestatic 159, 3, 0, 2, 0, 0, [], some m_De_isOccasion, [662, 663, 66, 664]),
  (5, .ifCond .eq 13, 3, 18, 0, 0, 0, [], none, []),
  (8, .aload_n 0, 1, 0, 0, 0, 0, [], none, []),
  (9, .iload_n 3, 1, 0, 0, 0, 0, [], none, []),
  (10, .iload 4, 2, 0, 0, 0, 0, [], none, []),
  (12, .invokevirtual 162, 3, 9, 2, 0, 0, [], some m_De_areTwo, [665, 667, 15, 66, 668]),
  (15, .ifCond .ne 5, 3, 20, 0, 0, 0, [], none, []),
  (18, .iconst (-1), 1, 0, 0, -1, 0, [], none, []),
  (19, .ireturn, 1, 0, 0, 0, 0, [], none, []),
  (20, .aload_n 0, 1, 0, 0, 0, 0, [], none, []),
  (21, .getfield 28, 3, 9, 2, 0, 0, [], none, [394]),
  (24, .iload_n 3, 1, 0, 0, 0, 0, [], none, []),
  (25, .iload 4, 2, 0, 0, 0, 0, [], none, []),
  (27, .invokevirtual 179, 3, 5, 2, 0, 0, [], some m_Bo_toldByHand, [714, 702, 703, 69, 704]),
  (30, .ifCond .eq 8, 3, 38, 0, 0, 0, [], none, []),
  (33, .bipush 100, 2, 0, 0, 100, 0, [], none, []),
  (35, .goto 15, 3, 50, 0, 0, 0, [], none, []),
  (38, .aload_n 0, 1, 0, 0, 0, 0, [], none, []),
  (39, .getfield 28, 3, 9, 2, 0, 0, [], none, [394]),
  (42, .iload_n 1, 1, 0, 0, 0, 0, [], none, []),
  (43, .iload_n 2, 1, 0, 0, 0, 0, [], none, []),
  (44, .iload_n 3, 1, 0, 0, 0, 0, [], none, []),
  (45, .iload 4, 2, 0, 0, 0, 0, [], none, []),
  (47, .invokevirtual 182, 3, 5, 4, 0, 0, [], some m_Bo_goingRule, [715, 706, 707, 69, 708]),
  (50, .ireturn, 1, 0, 0, 0, 0, [], none, [])]
theorem k_De_why : zOK m_De_why P_De_why := (by decide +kernel : P_De_why.all (zchk m_De_why.1.cls m_De_why.2.1) = true)

def P_De_quarrel : List zEn := [
  (0, .iload_n 1, 1, 0, 0, 0, 0, [], none, []),
  (1, .iload_n 2, 1, 0, 0, 0, 0, [], none, []),
  (2, .invokestatic 159, 3, 0, 2, 0, 0, [], some m_De_isOccasion, [662, 663, 66, 664]),
  (5, .ifCond .eq 13, 3, 18, 0, 0, 0, [], none, []),
  (8, .aload_n 0, 1, 0, 0, 0, 0, [], none, []),
  (9, .iload_n 3, 1, 0, 0, 0, 0, [], none, []),
  (10, .iload 4, 2, 0, 0, 0, 0, [], none, []),
  (12, .invokevirtual 162, 3, 9, 2, 0, 0, [], some m_De_areTwo, [665, 667, 15, 66, 668]),
  (15, .ifCond .ne 5, 3, 20, 0, 0, 0, [], none, []),
  (18, .iconst (-1), 1, 0, 0, -1, 0, [], none, []),
  (19, .ireturn, 1, 0, 0, 0, 0, [], none, []),
  (20, .aload_n 0, 1, 0, 0, 0, 0, [], none, []),
  (21, .getfield 28, 3, 9, 2, 0, 0, [], none, [394]),
  (24, .iload_n 3, 1, 0, 0, 0, 0, [], none, []),
  (25, .iload 4, 2, 0, 0, 0, 0, [], none, []),
  (27, .invokevirtual 179, 3, 5, 2, 0, 0, [], some m_Bo_toldByHand, [714, 702, 703, 69, 704]),
  (30, .ifCond .eq 7, 3, 37, 0, 0, 0, [], none, []),
  (33, .iconst (-1), 1, 0, 0, -1, 0, [], none, []),
  (34, .goto 15, 3, 49, 0, 0, 0, [], none, []),
  (37, .aload_n 0, 1, 0, 0, 0, 0, [], none, []),
  (38, .getfield 28, 3, 9, 2, 0, 0, [], none, [394]),
  (41, .iload_n 1, 1, 0, 0, 0, 0, [], none, []),
  (42, .iload_n 2, 1, 0, 0, 0, 0, [], none, []),
  (43, .iload_n 3, 1, 0, 0, 0, 0, [], none, []),
  (44, .iload 4, 2, 0, 0, 0, 0, [], none, []),
  (46, .invokevirtual 185, 3, 5, 4, 0, 0, [], some m_Bo_contraryRule, [720, 721, 722, 69, 723]),
  (49, .ireturn, 1, 0, 0, 0, 0, [], none, [])]
theorem k_De_quarrel : zOK m_De_quarrel P_De_quarrel := (by decide +kernel : P_De_quarrel.all (zchk m_De_quarrel.1.cls m_De_quarrel.2.1) = true)

def P_De_order : List zEn := [
  (0, .iload_n 1, 1, 0, 0, 0, 0, [], none, []),
  (1, .iload_n 2, 1, 0, 0, 0, 0, [], none, []),
  (2, .invokestatic 159, 3, 0, 2, 0, 0, [], some m_De_isOccasion, [662, 663, 66, 664]),
  (5, .ifCond .ne 5, 3, 10, 0, 0, 0, [], none, []),
  (8, .iconst (-1), 1, 0, 0, -1, 0, [], none, []),
  (9, .ireturn, 1, 0, 0, 0, 0, [], none, []),
  (10, .aload_n 0, 1, 0, 0, 0, 0, [], none, []),
  (11, .getfield 37, 3, 9, 3, 0, 0, [], none, [395]),
  (14, .iload_n 1, 1, 0, 0, 0, 0, [], none, []),
  (15, .iload_n 2, 1, 0, 0, 0, 0, [], none, []),
  (16, .invokevirtual 188, 3, 2, 2, 0, 0, [], some m_Pr_form, [728, 729, 730, 71, 731]),
  (19, .iload_n 3, 1, 0, 0, 0, 0, [], none, []),
  (20, .ifCond .lt 26, 3, 46, 0, 0, 0, [], none, []),
  (23, .iload_n 3, 1, 0, 0, 0, 0, [], none, []),
  (24, .aload_n 0, 1, 0, 0, 0, 0, [], none, []),
  (25, .getfield 37, 3, 9, 3, 0, 0, [], none, [395]),
  (28, .getfield 192, 3, 2, 0, 0, 0, [], none, [254]),
  (31, .if_icmp .ge 15, 3, 46, 0, 0, 0, [], none, []),
  (34, .aload_n 0, 1, 0, 0, 0, 0, [], none, []),
  (35, .getfield 37, 3, 9, 3, 0, 0, [], none, [395]),
  (38, .getfield 193, 3, 2, 2, 0, 0, [], none, [259]),
  (41, .iload_n 3, 1, 0, 0, 0, 0, [], none, []),
  (42, .iaload, 1, 0, 0, 0, 0, [], none, []),
  (43, .goto 4, 3, 47, 0, 0, 0, [], none, []),
  (46, .iconst (-1), 1, 0, 0, -1, 0, [], none, []),
  (47, .ireturn, 1, 0, 0, 0, 0, [], none, [])]
theorem k_De_order : zOK m_De_order P_De_order := (by decide +kernel : P_De_order.all (zchk m_De_order.1.cls m_De_order.2.1) = true)

def P_De_ring : List zEn := [
  (0, .iload_n 1, 1, 0, 0, 0, 0, [], none, []),
  (1, .iload_n 2, 1, 0, 0, 0, 0, [], none, []),
  (2, .invokestatic 159, 3, 0, 2, 0, 0, [], some m_De_isOccasion, [662, 663, 66, 664]),
  (5, .ifCond .ne 5, 3, 10, 0, 0, 0, [], none, []),
  (8, .iconst (-1), 1, 0, 0, -1, 0, [], none, []),
  (9, .ireturn, 1, 0, 0, 0, 0, [], none, []),
  (10, .aload_n 0, 1, 0, 0, 0, 0, [], none, []),
  (11, .getfield 37, 3, 9, 3, 0, 0, [], none, [395]),
  (14, .iload_n 1, 1, 0, 0, 0, 0, [], none, []),
  (15, .iload_n 2, 1, 0, 0, 0, 0, [], none, []),
  (16, .invokevirtual 188, 3, 2, 2, 0, 0, [], some m_Pr_form, [728, 729, 730, 71, 731]),
  (19, .iload_n 3, 1, 0, 0, 0, 0, [], none, []),
  (20, .ifCond .lt 26, 3, 46, 0, 0, 0, [], none, []),
  (23, .iload_n 3, 1, 0, 0, 0, 0, [], none, []),
  (24, .aload_n 0, 1, 0, 0, 0, 0, [], none, []),
  (25, .getfield 37, 3, 9, 3, 0, 0, [], none, [395]),
  (28, .getfield 196, 3, 2, 1, 0, 0, [], none, [256]),
  (31, .if_icmp .ge 15, 3, 46, 0, 0, 0, [], none, []),
  (34, .aload_n 0, 1, 0, 0, 0, 0, [], none, []),
  (35, .getfield 37, 3, 9, 3, 0, 0, [], none, [395]),
  (38, .getfield 199, 3, 2, 3, 0, 0, [], none, [261]),
  (41, .iload_n 3, 1, 0, 0, 0, 0, [], none, []),
  (42, .iaload, 1, 0, 0, 0, 0, [], none, []),
  (43, .goto 4, 3, 47, 0, 0, 0, [], none, []),
  (46, .iconst (-1), 1, 0, 0, -1, 0, [], none, []),
  (47, .ireturn, 1, 0, 0, 0, 0, [], none, [])]
theorem k_De_ring : zOK m_De_ring P_De_ring := (by decide +kernel : P_De_ring.all (zchk m_De_ring.1.cls m_De_ring.2.1) = true)

def P_De_dean : List zEn := [
  (0, .aload_n 0, 1, 0, 0, 0, 0, [], none, []),
  (1, .getfield 10, 3, 9, 0, 0, 0, [], none, [392]),
  (4, .invokevirtual 202, 3, 3, 0, 0, 0, [], some m_Ro_eldestWithPaper, [768, 769, 770, 67, 771]),
  (7, .ireturn, 1, 0, 0, 0, 0, [], none, [])]
theorem k_De_dean : zOK m_De_dean P_De_dean := (by decide +kernel : P_De_dean.all (zchk m_De_dean.1.cls m_De_dean.2.1) = true)

def P_De_table : List zEn := [
  (0, .iload_n 1, 1, 0, 0, 0, 0, [], none, []),
  (1, .ifCond .eq 8, 3, 9, 0, 0, 0, [], none, []),
  (4, .iload_n 1, 1, 0, 0, 0, 0, [], none, []),
  (5, .iconst 1, 1, 0, 0, 1, 0, [], none, []),
  (6, .if_icmp .ne 14, 3, 20, 0, 0, 0, [], none, []),
  (9, .iload_n 2, 1, 0, 0, 0, 0, [], none, []),
  (10, .iconst 2, 1, 0, 0, 2, 0, [], none, []),
  (11, .if_icmp .lt 9, 3, 20, 0, 0, 0, [], none, []),
  (14, .iload_n 2, 1, 0, 0, 0, 0, [], none, []),
  (15, .bipush 12, 2, 0, 0, 12, 0, [], none, []),
  (17, .if_icmp .le 6, 3, 23, 0, 0, 0, [], none, []),
  (20, .bipush (-2), 2, 0, 0, -2, 0, [], none, []),
  (22, .ireturn, 1, 0, 0, 0, 0, [], none, []),
  (23, .aload_n 0, 1, 0, 0, 0, 0, [], none, []),
  (24, .getfield 44, 3, 9, 4, 0, 0, [], none, [396]),
  (27, .getfield 207, 3, 1, 0, 0, 0, [], none, [319]),
  (30, .iconst 4, 1, 0, 0, 4, 0, [], none, []),
  (31, .if_icmp .ge 24, 3, 55, 0, 0, 0, [], none, []),
  (34, .aload_n 0, 1, 0, 0, 0, 0, [], none, []),
  (35, .getfield 44, 3, 9, 4, 0, 0, [], none, [396]),
  (38, .iload_n 1, 1, 0, 0, 0, 0, [], none, []),
  (39, .iconst 1, 1, 0, 0, 1, 0, [], none, []),
  (40, .if_icmp .ne 7, 3, 47, 0, 0, 0, [], none, []),
  (43, .iconst 1, 1, 0, 0, 1, 0, [], none, []),
  (44, .goto 4, 3, 48, 0, 0, 0, [], none, []),
  (47, .iconst 0, 1, 0, 0, 0, 0, [], none, []),
  (48, .iload_n 2, 1, 0, 0, 0, 0, [], none, []),
  (49, .invokevirtual 208, 3, 1, 2, 0, 0, [], some m_Ha_addTable, [784, 785, 786, 72, 787]),
  (52, .goto 5, 3, 57, 0, 0, 0, [], none, []),
  (55, .bipush (-4), 2, 0, 0, -4, 0, [], none, []),
  (57, .ireturn, 1, 0, 0, 0, 0, [], none, [])]
theorem k_De_table : zOK m_De_table P_De_table := (by decide +kernel : P_De_table.all (zchk m_De_table.1.cls m_De_table.2.1) = true)

def P_De_feud : List zEn := [
  (0, .aload_n 0, 1, 0, 0, 0, 0, [], none, []),
  (1, .getfield 10, 3, 9, 0, 0, 0, [], none, [392]),
  (4, .iload_n 1, 1, 0, 0, 0, 0, [], none, []),
  (5, .invokevirtual 76, 3, 3, 1, 0, 0, [], some m_Ro_hasState, [432, 433, 434, 67, 435]),
  (8, .ifCond .eq 14, 3, 22, 0, 0, 0, [], none, []),
  (11, .aload_n 0, 1, 0, 0, 0, 0, [], none, []),
  (12, .getfield 10, 3, 9, 0, 0, 0, [], none, [392]),
  (15, .iload_n 2, 1, 0, 0, 0, 0, [], none, []),
  (16, .invokevirtual 76, 3, 3, 1, 0, 0, [], some m_Ro_hasState, [432, 433, 434, 67, 435]),
  (19, .ifCond .ne 5, 3, 24, 0, 0, 0, [], none, []),
  (22, .iconst (-1), 1, 0, 0, -1, 0, [], none, []),
  (23, .ireturn, 1, 0, 0, 0, 0, [], none, []),
  (24, .iload_n 1, 1, 0, 0, 0, 0, [], none, []),
  (25, .iload_n 2, 1, 0, 0, 0, 0, [], none, []),
  (26, .if_icmp .eq 12, 3, 38, 0, 0, 0, [], none, []),
  (29, .iload_n 3, 1, 0, 0, 0, 0, [], none, []),
  (30, .ifCond .eq 11, 3, 41, 0, 0, 0, [], none, []),
  (33, .iload_n 3, 1, 0, 0, 0, 0, [], none, []),
  (34, .iconst 1, 1, 0, 0, 1, 0, [], none, []),
  (35, .if_icmp .eq 6, 3, 41, 0, 0, 0, [], none, []),
  (38, .bipush (-2), 2, 0, 0, -2, 0, [], none, []),
  (40, .ireturn, 1, 0, 0, 0, 0, [], none, []),
  (41, .aload_n 0, 1, 0, 0, 0, 0, [], none, []),
  (42, .getfield 44, 3, 9, 4, 0, 0, [], none, [396]),
  (45, .iload_n 1, 1, 0, 0, 0, 0, [], none, []),
  (46, .iload_n 2, 1, 0, 0, 0, 0, [], none, []),
  (47, .iload_n 3, 1, 0, 0, 0, 0, [], none, []),
  (48, .invokevirtual 212, 3, 1, 3, 0, 0, [], some m_Ha_setFeud, [797, 798, 799, 72, 800]),
  (51, .ireturn, 1, 0, 0, 0, 0, [], none, [])]
theorem k_De_feud : zOK m_De_feud P_De_feud := (by decide +kernel : P_De_feud.all (zchk m_De_feud.1.cls m_De_feud.2.1) = true)

def P_De_talk : List zEn := [
  (0, .iload_n 1, 1, 0, 0, 0, 0, [], none, []),
  (1, .invokestatic 216, 3, 0, 1, 0, 0, [], some m_Ro_isTongue, [805, 422, 67, 423]),
  (4, .ifCond .eq 25, 3, 29, 0, 0, 0, [], none, []),
  (7, .iload_n 2, 1, 0, 0, 0, 0, [], none, []),
  (8, .invokestatic 216, 3, 0, 1, 0, 0, [], some m_Ro_isTongue, [805, 422, 67, 423]),
  (11, .ifCond .eq 18, 3, 29, 0, 0, 0, [], none, []),
  (14, .iload_n 1, 1, 0, 0, 0, 0, [], none, []),
  (15, .iload_n 2, 1, 0, 0, 0, 0, [], none, []),
  (16, .if_icmp .eq 13, 3, 29, 0, 0, 0, [], none, []),
  (19, .iload_n 3, 1, 0, 0, 0, 0, [], none, []),
  (20, .ifCond .lt 9, 3, 29, 0, 0, 0, [], none, []),
  (23, .iload_n 3, 1, 0, 0, 0, 0, [], none, []),
  (24, .bipush 9, 2, 0, 0, 9, 0, [], none, []),
  (26, .if_icmp .le 6, 3, 32, 0, 0, 0, [], none, []),
  (29, .bipush (-2), 2, 0, 0, -2, 0, [], none, []),
  (31, .ireturn, 1, 0, 0, 0, 0, [], none, []),
  (32, .aload_n 0, 1, 0, 0, 0, 0, [], none, []),
  (33, .getfield 44, 3, 9, 4, 0, 0, [], none, [396]),
  (36, .iload_n 1, 1, 0, 0, 0, 0, [], none, []),
  (37, .iload_n 2, 1, 0, 0, 0, 0, [], none, []),
  (38, .iload_n 3, 1, 0, 0, 0, 0, [], none, []),
  (39, .invokevirtual 219, 3, 1, 3, 0, 0, [], some m_Ha_setCost, [806, 807, 808, 72, 809]),
  (42, .ireturn, 1, 0, 0, 0, 0, [], none, [])]
theorem k_De_talk : zOK m_De_talk P_De_talk := (by decide +kernel : P_De_talk.all (zchk m_De_talk.1.cls m_De_talk.2.1) = true)

def P_De_sit : List zEn := [
  (0, .aload_n 0, 1, 0, 0, 0, 0, [], none, []),
  (1, .getfield 44, 3, 9, 4, 0, 0, [], none, [396]),
  (4, .iload_n 1, 1, 0, 0, 0, 0, [], none, []),
  (5, .iload_n 2, 1, 0, 0, 0, 0, [], none, []),
  (6, .invokevirtual 222, 3, 1, 2, 0, 0, [], some m_Ha_hasSeat, [814, 815, 816, 72, 817]),
  (9, .ifCond .eq 19, 3, 28, 0, 0, 0, [], none, []),
  (12, .iload_n 3, 1, 0, 0, 0, 0, [], none, []),
  (13, .iconst (-1), 1, 0, 0, -1, 0, [], none, []),
  (14, .if_icmp .eq 17, 3, 31, 0, 0, 0, [], none, []),
  (17, .aload_n 0, 1, 0, 0, 0, 0, [], none, []),
  (18, .getfield 10, 3, 9, 0, 0, 0, [], none, [392]),
  (21, .iload_n 3, 1, 0, 0, 0, 0, [], none, []),
  (22, .invokevirtual 83, 3, 3, 1, 0, 0, [], some m_Ro_hasPerson, [439, 440, 441, 67, 442]),
  (25, .ifCond .ne 6, 3, 31, 0, 0, 0, [], none, []),
  (28, .bipush (-5), 2, 0, 0, -5, 0, [], none, []),
  (30, .ireturn, 1, 0, 0, 0, 0, [], none, []),
  (31, .iload_n 3, 1, 0, 0, 0, 0, [], none, []),
  (32, .iconst (-1), 1, 0, 0, -1, 0, [], none, []),
  (33, .if_icmp .eq 18, 3, 51, 0, 0, 0, [], none, []),
  (36, .aload_n 0, 1, 0, 0, 0, 0, [], none, []),
  (37, .getfield 10, 3, 9, 0, 0, 0, [], none, [392]),
  (40, .getfield 104, 3, 3, 2, 0, 0, [], none, [108]),
  (43, .iload_n 3, 1, 0, 0, 0, 0, [], none, []),
  (44, .iaload, 1, 0, 0, 0, 0, [], none, []),
  (45, .ifCond .ne 6, 3, 51, 0, 0, 0, [], none, []),
  (48, .bipush (-3), 2, 0, 0, -3, 0, [], none, []),
  (50, .ireturn, 1, 0, 0, 0, 0, [], none, []),
  (51, .aload_n 0, 1, 0, 0, 0, 0, [], none, []),
  (52, .getfield 44, 3, 9, 4, 0, 0, [], none, [396]),
  (55, .getfield 225, 3, 1, 1, 0, 0, [], none, [321]),
  (58, .iload_n 1, 1, 0, 0, 0, 0, [], none, []),
  (59, .aaload, 1, 0, 0, 0, 0, [], none, []),
  (60, .iload_n 2, 1, 0, 0, 0, 0, [], none, []),
  (61, .iload_n 3, 1, 0, 0, 0, 0, [], none, []),
  (62, .invokevirtual 229, 3, 7, 2, 0, 0, [], some m_Tb_put, [822, 823, 824, 73, 825]),
  (65, .ireturn, 1, 0, 0, 0, 0, [], none, [])]
theorem k_De_sit : zOK m_De_sit P_De_sit := (by decide +kernel : P_De_sit.all (zchk m_De_sit.1.cls m_De_sit.2.1) = true)

def P_De_price : List zEn := [
  (0, .aload_n 0, 1, 0, 0, 0, 0, [], none, []),
  (1, .getfield 44, 3, 9, 4, 0, 0, [], none, [396]),
  (4, .iload_n 1, 1, 0, 0, 0, 0, [], none, []),
  (5, .invokevirtual 232, 3, 1, 1, 0, 0, [], some m_Ha_hasTable, [831, 819, 820, 72, 821]),
  (8, .ifCond .eq 11, 3, 19, 0, 0, 0, [], none, []),
  (11, .iload_n 2, 1, 0, 0, 0, 0, [], none, []),
  (12, .iload_n 3, 1, 0, 0, 0, 0, [], none, []),
  (13, .invokestatic 159, 3, 0, 2, 0, 0, [], some m_De_isOccasion, [662, 663, 66, 664]),
  (16, .ifCond .ne 5, 3, 21, 0, 0, 0, [], none, []),
  (19, .iconst (-1), 1, 0, 0, -1, 0, [], none, []),
  (20, .ireturn, 1, 0, 0, 0, 0, [], none, []),
  (21, .aload_n 0, 1, 0, 0, 0, 0, [], none, []),
  (22, .getfield 37, 3, 9, 3, 0, 0, [], none, [395]),
  (25, .iload_n 2, 1, 0, 0, 0, 0, [], none, []),
  (26, .iload_n 3, 1, 0, 0, 0, 0, [], none, []),
  (27, .invokevirtual 188, 3, 2, 2, 0, 0, [], some m_Pr_form, [728, 729, 730, 71, 731]),
  (30, .aload_n 0, 1, 0, 0, 0, 0, [], none, []),
  (31, .getfield 44, 3, 9, 4, 0, 0, [], none, [396]),
  (34, .aload_n 0, 1, 0, 0, 0, 0, [], none, []),
  (35, .getfield 44, 3, 9, 4, 0, 0, [], none, [396]),
  (38, .getfield 225, 3, 1, 1, 0, 0, [], none, [321]),
  (41, .iload_n 1, 1, 0, 0, 0, 0, [], none, []),
  (42, .aaload, 1, 0, 0, 0, 0, [], none, []),
  (43, .aload_n 0, 1, 0, 0, 0, 0, [], none, []),
  (44, .getfield 37, 3, 9, 3, 0, 0, [], none, [395]),
  (47, .invokevirtual 235, 3, 1, 2, 0, 0, [], some m_Ha_priceOf, [832, 833, 834, 72, 835]),
  (50, .ireturn, 1, 0, 0, 0, 0, [], none, [])]
theorem k_De_price : zOK m_De_price P_De_price := (by decide +kernel : P_De_price.all (zchk m_De_price.1.cls m_De_price.2.1) = true)

def P_De_keeps : List zEn := [
  (0, .aload_n 0, 1, 0, 0, 0, 0, [], none, []),
  (1, .getfield 44, 3, 9, 4, 0, 0, [], none, [396]),
  (4, .iload_n 1, 1, 0, 0, 0, 0, [], none, []),
  (5, .invokevirtual 232, 3, 1, 1, 0, 0, [], some m_Ha_hasTable, [831, 819, 820, 72, 821]),
  (8, .ifCond .ne 5, 3, 13, 0, 0, 0, [], none, []),
  (11, .iconst (-1), 1, 0, 0, -1, 0, [], none, []),
  (12, .ireturn, 1, 0, 0, 0, 0, [], none, []),
  (13, .aload_n 0, 1, 0, 0, 0, 0, [], none, []),
  (14, .getfield 44, 3, 9, 4, 0, 0, [], none, [396]),
  (17, .aload_n 0, 1, 0, 0, 0, 0, [], none, []),
  (18, .getfield 44, 3, 9, 4, 0, 0, [], none, [396]),
  (21, .getfield 225, 3, 1, 1, 0, 0, [], none, [321]),
  (24, .iload_n 1, 1, 0, 0, 0, 0, [], none, []),
  (25, .aaload, 1, 0, 0, 0, 0, [], none, []),
  (26, .invokevirtual 239, 3, 1, 1, 0, 0, [], some m_Ha_isPeaceful, [875, 876, 877, 72, 878]),
  (29, .ifCond .eq 7, 3, 36, 0, 0, 0, [], none, []),
  (32, .iconst 1, 1, 0, 0, 1, 0, [], none, []),
  (33, .goto 4, 3, 37, 0, 0, 0, [], none, []),
  (36, .iconst 0, 1, 0, 0, 0, 0, [], none, []),
  (37, .ireturn, 1, 0, 0, 0, 0, [], none, [])]
theorem k_De_keeps : zOK m_De_keeps P_De_keeps := (by decide +kernel : P_De_keeps.all (zchk m_De_keeps.1.cls m_De_keeps.2.1) = true)

def P_De_lay : List zEn := [
  (0, .aload_n 0, 1, 0, 0, 0, 0, [], none, []),
  (1, .getfield 44, 3, 9, 4, 0, 0, [], none, [396]),
  (4, .iload_n 1, 1, 0, 0, 0, 0, [], none, []),
  (5, .invokevirtual 232, 3, 1, 1, 0, 0, [], some m_Ha_hasTable, [831, 819, 820, 72, 821]),
  (8, .ifCond .eq 11, 3, 19, 0, 0, 0, [], none, []),
  (11, .iload_n 2, 1, 0, 0, 0, 0, [], none, []),
  (12, .iload_n 3, 1, 0, 0, 0, 0, [], none, []),
  (13, .invokestatic 159, 3, 0, 2, 0, 0, [], some m_De_isOccasion, [662, 663, 66, 664]),
  (16, .ifCond .ne 5, 3, 21, 0, 0, 0, [], none, []),
  (19, .iconst (-1), 1, 0, 0, -1, 0, [], none, []),
  (20, .ireturn, 1, 0, 0, 0, 0, [], none, []),
  (21, .aload_n 0, 1, 0, 0, 0, 0, [], none, []),
  (22, .getfield 44, 3, 9, 4, 0, 0, [], none, [396]),
  (25, .getfield 225, 3, 1, 1, 0, 0, [], none, [321]),
  (28, .iload_n 1, 1, 0, 0, 0, 0, [], none, []),
  (29, .aaload, 1, 0, 0, 0, 0, [], none, []),
  (30, .astore 5, 2, 0, 0, 0, 0, [], none, []),
  (32, .iload 4, 2, 0, 0, 0, 0, [], none, []),
  (34, .invokestatic 243, 3, 0, 1, 0, 0, [], some m_Jint_bitCount, [899, 900, 83, 901]),
  (37, .istore 6, 2, 0, 0, 0, 0, [], none, []),
  (39, .iload 6, 2, 0, 0, 0, 0, [], none, []),
  (41, .iconst 1, 1, 0, 0, 1, 0, [], none, []),
  (42, .if_icmp .lt 24, 3, 66, 0, 0, 0, [], none, []),
  (45, .iload 6, 2, 0, 0, 0, 0, [], none, []),
  (47, .bipush 7, 2, 0, 0, 7, 0, [], none, []),
  (49, .if_icmp .gt 17, 3, 66, 0, 0, 0, [], none, []),
  (52, .iload 6, 2, 0, 0, 0, 0, [], none, []),
  (54, .aload 5, 2, 0, 0, 0, 0, [], none, []),
  (56, .getfield 249, 3, 7, 0, 0, 0, [], none, [305]),
  (59, .if_icmp .gt 7, 3, 66, 0, 0, 0, [], none, []),
  (62, .iconst 1, 1, 0, 0, 1, 0, [], none, []),
  (63, .goto 4, 3, 67, 0, 0, 0, [], none, []),
  (66, .iconst 0, 1, 0, 0, 0, 0, [], none, []),
  (67, .istore 7, 2, 0, 0, 0, 0, [], none, []),
  (69, .iload 7, 2, 0, 0, 0, 0, [], none, []),
  (71, .ifCond .eq 15, 3, 86, 0, 0, 0, [], none, []),
  (74, .aload_n 0, 1, 0, 0, 0, 0, [], none, []),
  (75, .getfield 10, 3, 9, 0, 0, 0, [], none, [392]),
  (78, .iload 4, 2, 0, 0, 0, 0, [], none, []),
  (80, .invokevirtual 112, 3, 3, 1, 0, 0, [], some m_Ro_isSetOfPersons, [507, 508, 509, 67, 510]),
  (83, .ifCond .ne 6, 3, 89, 0, 0, 0, [], none, []),
  (86, .bipush (-2), 2, 0, 0, -2, 0, [], none, []),
  (88, .ireturn, 1, 0, 0, 0, 0, [], none, []),
  (89, .aload_n 0, 1, 0, 0, 0, 0, [], none, []),
  (90, .getfield 10, 3, 9, 0, 0, 0, [], none, [392]),
  (93, .iload 4, 2, 0, 0, 0, 0, [], none, []),
  (95, .invokevirtual 250, 3, 3, 1, 0, 0, [], some m_Ro_areAllPresent, [905, 906, 907, 67, 908]),
  (98, .ifCond .ne 6, 3, 104, 0, 0, 0, [], none, []),
  (101, .bipush (-3), 2, 0, 0, -3, 0, [], none, []),
  (103, .ireturn, 1, 0, 0, 0, 0, [], none, []),
  (104, .aload_n 0, 1, 0, 0, 0, 0, [], none, []),
  (105, .getfield 37, 3, 9, 3, 0, 0, [], none, [395]),
  (108, .iload_n 2, 1, 0, 0, 0, 0, [], none, []),
  (109, .iload_n 3, 1, 0, 0, 0, 0, [], none, []),
  (110, .invokevirtual 188, 3, 2, 2, 0, 0, [], some m_Pr_form, [728, 729, 730, 71, 731]),
  (113, .aload_n 0, 1, 0, 0, 0, 0, [], none, []),
  (114, .getfield 53, 3, 9, 5, 0, 0, [], none, [397]),
  (117, .aload 5, 2, 0, 0, 0, 0, [], none, []),
  (119, .aload_n 0, 1, 0, 0, 0, 0, [], none, []),
  (120, .getfield 37, 3, 9, 3, 0, 0, [], none, [395]),
  (123, .iload 4, 2, 0, 0, 0, 0, [], none, []),
  (125, .invokevirtual 253, 3, 6, 3, 0, 0, [], some m_Se_arrange, [909, 910, 911, 74, 912]),
  (128, .istore 8, 2, 0, 0, 0, 0, [], none, []),
  (130, .iload 8, 2, 0, 0, 0, 0, [], none, []),
  (132, .iconst (-1), 1, 0, 0, -1, 0, [], none, []),
  (133, .if_icmp .eq 8, 3, 141, 0, 0, 0, [], none, []),
  (136, .iload 8, 2, 0, 0, 0, 0, [], none, []),
  (138, .goto 5, 3, 143, 0, 0, 0, [], none, []),
  (141, .bipush (-6), 2, 0, 0, -6, 0, [], none, []),
  (143, .ireturn, 1, 0, 0, 0, 0, [], none, [])]
theorem k_De_lay : zOK m_De_lay P_De_lay := (by decide +kernel : P_De_lay.all (zchk m_De_lay.1.cls m_De_lay.2.1) = true)

def P_De_close : List zEn := [
  (0, .aload_n 0, 1, 0, 0, 0, 0, [], none, []),
  (1, .getfield 44, 3, 9, 4, 0, 0, [], none, [396]),
  (4, .iload_n 1, 1, 0, 0, 0, 0, [], none, []),
  (5, .invokevirtual 232, 3, 1, 1, 0, 0, [], some m_Ha_hasTable, [831, 819, 820, 72, 821]),
  (8, .ifCond .eq 18, 3, 26, 0, 0, 0, [], none, []),
  (11, .aload_n 0, 1, 0, 0, 0, 0, [], none, []),
  (12, .getfield 44, 3, 9, 4, 0, 0, [], none, [396]),
  (15, .getfield 225, 3, 1, 1, 0, 0, [], none, [321]),
  (18, .iload_n 1, 1, 0, 0, 0, 0, [], none, []),
  (19, .aaload, 1, 0, 0, 0, 0, [], none, []),
  (20, .invokevirtual 257, 3, 7, 0, 0, 0, [], some m_Tb_moveUp, [934, 935, 936, 73, 937]),
  (23, .goto 4, 3, 27, 0, 0, 0, [], none, []),
  (26, .iconst (-1), 1, 0, 0, -1, 0, [], none, []),
  (27, .ireturn, 1, 0, 0, 0, 0, [], none, [])]
theorem k_De_close : zOK m_De_close P_De_close := (by decide +kernel : P_De_close.all (zchk m_De_close.1.cls m_De_close.2.1) = true)

def P_De_seat : List zEn := [
  (0, .aload_n 0, 1, 0, 0, 0, 0, [], none, []),
  (1, .getfield 44, 3, 9, 4, 0, 0, [], none, [396]),
  (4, .iload_n 1, 1, 0, 0, 0, 0, [], none, []),
  (5, .iload_n 2, 1, 0, 0, 0, 0, [], none, []),
  (6, .invokevirtual 222, 3, 1, 2, 0, 0, [], some m_Ha_hasSeat, [814, 815, 816, 72, 817]),
  (9, .ifCond .eq 20, 3, 29, 0, 0, 0, [], none, []),
  (12, .aload_n 0, 1, 0, 0, 0, 0, [], none, []),
  (13, .getfield 44, 3, 9, 4, 0, 0, [], none, [396]),
  (16, .getfield 225, 3, 1, 1, 0, 0, [], none, [321]),
  (19, .iload_n 1, 1, 0, 0, 0, 0, [], none, []),
  (20, .aaload, 1, 0, 0, 0, 0, [], none, []),
  (21, .getfield 260, 3, 7, 1, 0, 0, [], none, [309]),
  (24, .iload_n 2, 1, 0, 0, 0, 0, [], none, []),
  (25, .iaload, 1, 0, 0, 0, 0, [], none, []),
  (26, .goto 4, 3, 30, 0, 0, 0, [], none, []),
  (29, .iconst (-1), 1, 0, 0, -1, 0, [], none, []),
  (30, .ireturn, 1, 0, 0, 0, 0, [], none, [])]
theorem k_De_seat : zOK m_De_seat P_De_seat := (by decide +kernel : P_De_seat.all (zchk m_De_seat.1.cls m_De_seat.2.1) = true)

def P_De_visit : List zEn := [
  (0, .aload_n 0, 1, 0, 0, 0, 0, [], none, []),
  (1, .getfield 10, 3, 9, 0, 0, 0, [], none, [392]),
  (4, .iload_n 1, 1, 0, 0, 0, 0, [], none, []),
  (5, .invokevirtual 83, 3, 3, 1, 0, 0, [], some m_Ro_hasPerson, [439, 440, 441, 67, 442]),
  (8, .ifCond .eq 14, 3, 22, 0, 0, 0, [], none, []),
  (11, .aload_n 0, 1, 0, 0, 0, 0, [], none, []),
  (12, .getfield 10, 3, 9, 0, 0, 0, [], none, [392]),
  (15, .iload_n 2, 1, 0, 0, 0, 0, [], none, []),
  (16, .invokevirtual 83, 3, 3, 1, 0, 0, [], some m_Ro_hasPerson, [439, 440, 441, 67, 442]),
  (19, .ifCond .ne 5, 3, 24, 0, 0, 0, [], none, []),
  (22, .iconst (-1), 1, 0, 0, -1, 0, [], none, []),
  (23, .ireturn, 1, 0, 0, 0, 0, [], none, []),
  (24, .iload_n 1, 1, 0, 0, 0, 0, [], none, []),
  (25, .iload_n 2, 1, 0, 0, 0, 0, [], none, []),
  (26, .if_icmp .eq 14, 3, 40, 0, 0, 0, [], none, []),
  (29, .iload_n 3, 1, 0, 0, 0, 0, [], none, []),
  (30, .ifCond .lt 10, 3, 40, 0, 0, 0, [], none, []),
  (33, .iload_n 3, 1, 0, 0, 0, 0, [], none, []),
  (34, .sipush 9999, 3, 0, 0, 9999, 0, [], none, []),
  (37, .if_icmp .le 6, 3, 43, 0, 0, 0, [], none, []),
  (40, .bipush (-2), 2, 0, 0, -2, 0, [], none, []),
  (42, .ireturn, 1, 0, 0, 0, 0, [], none, []),
  (43, .aload_n 0, 1, 0, 0, 0, 0, [], none, []),
  (44, .getfield 60, 3, 9, 6, 0, 0, [], none, [398]),
  (47, .iload_n 1, 1, 0, 0, 0, 0, [], none, []),
  (48, .iload_n 2, 1, 0, 0, 0, 0, [], none, []),
  (49, .invokevirtual 263, 3, 0, 2, 0, 0, [], some m_Ca_settleOldest, [946, 947, 948, 75, 949]),
  (52, .ifCond .eq 5, 3, 57, 0, 0, 0, [], none, []),
  (55, .iconst 1, 1, 0, 0, 1, 0, [], none, []),
  (56, .ireturn, 1, 0, 0, 0, 0, [], none, []),
  (57, .aload_n 0, 1, 0, 0, 0, 0, [], none, []),
  (58, .getfield 60, 3, 9, 6, 0, 0, [], none, [398]),
  (61, .getfield 266, 3, 0, 0, 0, 0, [], none, [374]),
  (64, .bipush 40, 2, 0, 0, 40, 0, [], none, []),
  (66, .if_icmp .lt 6, 3, 72, 0, 0, 0, [], none, []),
  (69, .bipush (-4), 2, 0, 0, -4, 0, [], none, []),
  (71, .ireturn, 1, 0, 0, 0, 0, [], none, []),
  (72, .aload_n 0, 1, 0, 0, 0, 0, [], none, []),
  (73, .getfield 60, 3, 9, 6, 0, 0, [], none, [398]),
  (76, .iload_n 2, 1, 0, 0, 0, 0, [], none, []),
  (77, .iload_n 1, 1, 0, 0, 0, 0, [], none, []),
  (78, .iload_n 3, 1, 0, 0, 0, 0, [], none, []),
  (79, .invokevirtual 267, 3, 0, 3, 0, 0, [], some m_Ca_add, [958, 959, 960, 75, 961]),
  (82, .iconst 0, 1, 0, 0, 0, 0, [], none, []),
  (83, .ireturn, 1, 0, 0, 0, 0, [], none, [])]
theorem k_De_visit : zOK m_De_visit P_De_visit := (by decide +kernel : P_De_visit.all (zchk m_De_visit.1.cls m_De_visit.2.1) = true)

def P_De_card : List zEn := [
  (0, .aload_n 0, 1, 0, 0, 0, 0, [], none, []),
  (1, .getfield 10, 3, 9, 0, 0, 0, [], none, [392]),
  (4, .iload_n 1, 1, 0, 0, 0, 0, [], none, []),
  (5, .invokevirtual 83, 3, 3, 1, 0, 0, [], some m_Ro_hasPerson, [439, 440, 441, 67, 442]),
  (8, .ifCond .eq 14, 3, 22, 0, 0, 0, [], none, []),
  (11, .aload_n 0, 1, 0, 0, 0, 0, [], none, []),
  (12, .getfield 10, 3, 9, 0, 0, 0, [], none, [392]),
  (15, .iload_n 2, 1, 0, 0, 0, 0, [], none, []),
  (16, .invokevirtual 83, 3, 3, 1, 0, 0, [], some m_Ro_hasPerson, [439, 440, 441, 67, 442]),
  (19, .ifCond .ne 5, 3, 24, 0, 0, 0, [], none, []),
  (22, .iconst (-1), 1, 0, 0, -1, 0, [], none, []),
  (23, .ireturn, 1, 0, 0, 0, 0, [], none, []),
  (24, .aload_n 0, 1, 0, 0, 0, 0, [], none, []),
  (25, .getfield 60, 3, 9, 6, 0, 0, [], none, [398]),
  (28, .iload_n 1, 1, 0, 0, 0, 0, [], none, []),
  (29, .iload_n 2, 1, 0, 0, 0, 0, [], none, []),
  (30, .invokevirtual 270, 3, 0, 2, 0, 0, [], some m_Ca_settleAll, [966, 967, 968, 75, 969]),
  (33, .ireturn, 1, 0, 0, 0, 0, [], none, [])]
theorem k_De_card : zOK m_De_card P_De_card := (by decide +kernel : P_De_card.all (zchk m_De_card.1.cls m_De_card.2.1) = true)

def P_De_owes : List zEn := [
  (0, .aload_n 0, 1, 0, 0, 0, 0, [], none, []),
  (1, .getfield 10, 3, 9, 0, 0, 0, [], none, [392]),
  (4, .iload_n 1, 1, 0, 0, 0, 0, [], none, []),
  (5, .invokevirtual 83, 3, 3, 1, 0, 0, [], some m_Ro_hasPerson, [439, 440, 441, 67, 442]),
  (8, .ifCond .eq 15, 3, 23, 0, 0, 0, [], none, []),
  (11, .aload_n 0, 1, 0, 0, 0, 0, [], none, []),
  (12, .getfield 60, 3, 9, 6, 0, 0, [], none, [398]),
  (15, .iload_n 1, 1, 0, 0, 0, 0, [], none, []),
  (16, .iload_n 2, 1, 0, 0, 0, 0, [], none, []),
  (17, .invokevirtual 273, 3, 0, 2, 0, 0, [], some m_Ca_find, [974, 975, 976, 75, 977]),
  (20, .goto 4, 3, 24, 0, 0, 0, [], none, []),
  (23, .iconst (-1), 1, 0, 0, -1, 0, [], none, []),
  (24, .istore 4, 2, 0, 0, 0, 0, [], none, []),
  (26, .iload 4, 2, 0, 0, 0, 0, [], none, []),
  (28, .iconst (-1), 1, 0, 0, -1, 0, [], none, []),
  (29, .if_icmp .ne 5, 3, 34, 0, 0, 0, [], none, []),
  (32, .iconst (-1), 1, 0, 0, -1, 0, [], none, []),
  (33, .ireturn, 1, 0, 0, 0, 0, [], none, []),
  (34, .bipush 100, 2, 0, 0, 100, 0, [], none, []),
  (36, .aload_n 0, 1, 0, 0, 0, 0, [], none, []),
  (37, .getfield 60, 3, 9, 6, 0, 0, [], none, [398]),
  (40, .getfield 276, 3, 0, 2, 0, 0, [], none, [378]),
  (43, .iload 4, 2, 0, 0, 0, 0, [], none, []),
  (45, .iaload, 1, 0, 0, 0, 0, [], none, []),
  (46, .imul, 1, 0, 0, 0, 0, [], none, []),
  (47, .aload_n 0, 1, 0, 0, 0, 0, [], none, []),
  (48, .getfield 60, 3, 9, 6, 0, 0, [], none, [398]),
  (51, .iload 4, 2, 0, 0, 0, 0, [], none, []),
  (53, .iload_n 3, 1, 0, 0, 0, 0, [], none, []),
  (54, .invokevirtual 279, 3, 0, 2, 0, 0, [], some m_Ca_isLate, [978, 979, 980, 75, 981]),
  (57, .ifCond .eq 7, 3, 64, 0, 0, 0, [], none, []),
  (60, .iconst 1, 1, 0, 0, 1, 0, [], none, []),
  (61, .goto 4, 3, 65, 0, 0, 0, [], none, []),
  (64, .iconst 0, 1, 0, 0, 0, 0, [], none, []),
  (65, .iadd, 1, 0, 0, 0, 0, [], none, []),
  (66, .ireturn, 1, 0, 0, 0, 0, [], none, [])]
theorem k_De_owes : zOK m_De_owes P_De_owes := (by decide +kernel : P_De_owes.all (zchk m_De_owes.1.cls m_De_owes.2.1) = true)

def P_De_within : List zEn := [
  (0, .iload_n 1, 1, 0, 0, 0, 0, [], none, []),
  (1, .iconst 1, 1, 0, 0, 1, 0, [], none, []),
  (2, .if_icmp .lt 9, 3, 11, 0, 0, 0, [], none, []),
  (5, .iload_n 1, 1, 0, 0, 0, 0, [], none, []),
  (6, .bipush 99, 2, 0, 0, 99, 0, [], none, []),
  (8, .if_icmp .le 6, 3, 14, 0, 0, 0, [], none, []),
  (11, .bipush (-2), 2, 0, 0, -2, 0, [], none, []),
  (13, .ireturn, 1, 0, 0, 0, 0, [], none, []),
  (14, .aload_n 0, 1, 0, 0, 0, 0, [], none, []),
  (15, .getfield 60, 3, 9, 6, 0, 0, [], none, [398]),
  (18, .getfield 282, 3, 0, 1, 0, 0, [], none, [376]),
  (21, .istore_n 2, 1, 0, 0, 0, 0, [], none, []),
  (22, .aload_n 0, 1, 0, 0, 0, 0, [], none, []),
  (23, .getfield 60, 3, 9, 6, 0, 0, [], none, [398]),
  (26, .iload_n 1, 1, 0, 0, 0, 0, [], none, []),
  (27, .putfield 282, 3, 0, 1, 0, 0, [], none, [376]),
  (30, .iload_n 2, 1, 0, 0, 0, 0, [], none, []),
  (31, .ireturn, 1, 0, 0, 0, 0, [], none, [])]
theorem k_De_within : zOK m_De_within P_De_within := (by decide +kernel : P_De_within.all (zchk m_De_within.1.cls m_De_within.2.1) = true)

def P_De_count : List zEn := [
  (0, .iload_n 1, 1, 0, 0, 0, 0, [], none, []),
  (1, .tableswitch 111 0 7 #[47, 55, 63, 71, 79, 87, 95, 103], 47, 112, 0, 0, 0, [(0, 48), (1, 56), (2, 64), (3, 72), (4, 80), (5, 88), (6, 96), (7, 104)], none, []),
  (48, .aload_n 0, 1, 0, 0, 0, 0, [], none, []),
  (49, .getfield 10, 3, 9, 0, 0, 0, [], none, [392]),
  (52, .getfield 68, 3, 3, 0, 0, 0, [], none, [101]),
  (55, .ireturn, 1, 0, 0, 0, 0, [], none, []),
  (56, .aload_n 0, 1, 0, 0, 0, 0, [], none, []),
  (57, .getfield 10, 3, 9, 0, 0, 0, [], none, [392]),
  (60, .getfield 93, 3, 3, 1, 0, 0, [], none, [104]),
  (63, .ireturn, 1, 0, 0, 0, 0, [], none, []),
  (64, .aload_n 0, 1, 0, 0, 0, 0, [], none, []),
  (65, .getfield 28, 3, 9, 2, 0, 0, [], none, [394]),
  (68, .getfield 137, 3, 5, 0, 0, 0, [], none, [224]),
  (71, .ireturn, 1, 0, 0, 0, 0, [], none, []),
  (72, .aload_n 0, 1, 0, 0, 0, 0, [], none, []),
  (73, .getfield 28, 3, 9, 2, 0, 0, [], none, [394]),
  (76, .getfield 169, 3, 5, 1, 0, 0, [], none, [226]),
  (79, .ireturn, 1, 0, 0, 0, 0, [], none, []),
  (80, .aload_n 0, 1, 0, 0, 0, 0, [], none, []),
  (81, .getfield 44, 3, 9, 4, 0, 0, [], none, [396]),
  (84, .getfield 207, 3, 1, 0, 0, 0, [], none, [319]),
  (87, .ireturn, 1, 0, 0, 0, 0, [], none, []),
  (88, .aload_n 0, 1, 0, 0, 0, 0, [], none, []),
  (89, .getfield 60, 3, 9, 6, 0, 0, [], none, [398]),
  (92, .getfield 266, 3, 0, 0, 0, 0, [], none, [374]),
  (95, .ireturn, 1, 0, 0, 0, 0, [], none, []),
  (96, .aload_n 0, 1, 0, 0, 0, 0, [], none, []),
  (97, .getfield 19, 3, 9, 1, 0, 0, [], none, [393]),
  (100, .getfield 126, 3, 8, 0, 0, 0, [], none, [146]),
  (103, .ireturn, 1, 0, 0, 0, 0, [], none, []),
  (104, .aload_n 0, 1, 0, 0, 0, 0, [], none, []),
  (105, .getfield 10, 3, 9, 0, 0, 0, [], none, [392]),
  (108, .invokevirtual 285, 3, 3, 0, 0, 0, [], some m_Ro_countPresent, [990, 734, 735, 67, 736]),
  (111, .ireturn, 1, 0, 0, 0, 0, [], none, []),
  (112, .iconst (-1), 1, 0, 0, -1, 0, [], none, []),
  (113, .ireturn, 1, 0, 0, 0, 0, [], none, [])]
theorem k_De_count : zOK m_De_count P_De_count := (by decide +kernel : P_De_count.all (zchk m_De_count.1.cls m_De_count.2.1) = true)

def P_De_isOccasion : List zEn := [
  (0, .iload_n 0, 1, 0, 0, 0, 0, [], none, []),
  (1, .ifCond .lt 17, 3, 18, 0, 0, 0, [], none, []),
  (4, .iload_n 0, 1, 0, 0, 0, 0, [], none, []),
  (5, .bipush 9, 2, 0, 0, 9, 0, [], none, []),
  (7, .if_icmp .gt 11, 3, 18, 0, 0, 0, [], none, []),
  (10, .iload_n 1, 1, 0, 0, 0, 0, [], none, []),
  (11, .ifCond .lt 7, 3, 18, 0, 0, 0, [], none, []),
  (14, .iconst 1, 1, 0, 0, 1, 0, [], none, []),
  (15, .goto 4, 3, 19, 0, 0, 0, [], none, []),
  (18, .iconst 0, 1, 0, 0, 0, 0, [], none, []),
  (19, .ireturn, 1, 0, 0, 0, 0, [], none, [])]
theorem k_De_isOccasion : zOK m_De_isOccasion P_De_isOccasion := (by decide +kernel : P_De_isOccasion.all (zchk m_De_isOccasion.1.cls m_De_isOccasion.2.1) = true)

def P_De_areTwo : List zEn := [
  (0, .aload_n 0, 1, 0, 0, 0, 0, [], none, []),
  (1, .getfield 10, 3, 9, 0, 0, 0, [], none, [392]),
  (4, .iload_n 1, 1, 0, 0, 0, 0, [], none, []),
  (5, .invokevirtual 83, 3, 3, 1, 0, 0, [], some m_Ro_hasPerson, [439, 440, 441, 67, 442]),
  (8, .ifCond .eq 23, 3, 31, 0, 0, 0, [], none, []),
  (11, .aload_n 0, 1, 0, 0, 0, 0, [], none, []),
  (12, .getfield 10, 3, 9, 0, 0, 0, [], none, [392]),
  (15, .iload_n 2, 1, 0, 0, 0, 0, [], none, []),
  (16, .invokevirtual 83, 3, 3, 1, 0, 0, [], some m_Ro_hasPerson, [439, 440, 441, 67, 442]),
  (19, .ifCond .eq 12, 3, 31, 0, 0, 0, [], none, []),
  (22, .iload_n 1, 1, 0, 0, 0, 0, [], none, []),
  (23, .iload_n 2, 1, 0, 0, 0, 0, [], none, []),
  (24, .if_icmp .eq 7, 3, 31, 0, 0, 0, [], none, []),
  (27, .iconst 1, 1, 0, 0, 1, 0, [], none, []),
  (28, .goto 4, 3, 32, 0, 0, 0, [], none, []),
  (31, .iconst 0, 1, 0, 0, 0, 0, [], none, []),
  (32, .ireturn, 1, 0, 0, 0, 0, [], none, [])]
theorem k_De_areTwo : zOK m_De_areTwo P_De_areTwo := (by decide +kernel : P_De_areTwo.all (zchk m_De_areTwo.1.cls m_De_areTwo.2.1) = true)
end
section
def P_Mo_isIn : List zEn := [
  (0, .lload_n 0, 1, 0, 0, 0, 0, [], none, []),
  (1, .lload_n 2, 1, 0, 0, 0, 0, [], none, []),
  (2, .lcmp, 1, 0, 0, 0, 0, [], none, []),
  (3, .ifCond .lt 14, 3, 17, 0, 0, 0, [], none, []),
  (6, .lload_n 0, 1, 0, 0, 0, 0, [], none, []),
  (7, .lload 4, 2, 0, 0, 0, 0, [], none, []),
  (9, .lcmp, 1, 0, 0, 0, 0, [], none, []),
  (10, .ifCond .gt 7, 3, 17, 0, 0, 0, [], none, []),
  (13, .iconst 1, 1, 0, 0, 1, 0, [], none, []),
  (14, .goto 4, 3, 18, 0, 0, 0, [], none, []),
  (17, .iconst 0, 1, 0, 0, 0, 0, [], none, []),
  (18, .ireturn, 1, 0, 0, 0, 0, [], none, [])]
theorem k_Mo_isIn : zOK m_Mo_isIn P_Mo_isIn := (by decide +kernel : P_Mo_isIn.all (zchk m_Mo_isIn.1.cls m_Mo_isIn.2.1) = true)

def P_Mo_isPerson : List zEn := [
  (0, .iload_n 1, 1, 0, 0, 0, 0, [], none, []),
  (1, .ifCond .lt 15, 3, 16, 0, 0, 0, [], none, []),
  (4, .iload_n 1, 1, 0, 0, 0, 0, [], none, []),
  (5, .aload_n 0, 1, 0, 0, 0, 0, [], none, []),
  (6, .getfield 140, 3, 10, 5, 0, 0, [], none, [1002]),
  (9, .if_icmp .ge 7, 3, 16, 0, 0, 0, [], none, []),
  (12, .iconst 1, 1, 0, 0, 1, 0, [], none, []),
  (13, .goto 4, 3, 17, 0, 0, 0, [], none, []),
  (16, .iconst 0, 1, 0, 0, 0, 0, [], none, []),
  (17, .ireturn, 1, 0, 0, 0, 0, [], none, [])]
theorem k_Mo_isPerson : zOK m_Mo_isPerson P_Mo_isPerson := (by decide +kernel : P_Mo_isPerson.all (zchk m_Mo_isPerson.1.cls m_Mo_isPerson.2.1) = true)

def P_Mo_isState : List zEn := [
  (0, .iload_n 1, 1, 0, 0, 0, 0, [], none, []),
  (1, .ifCond .lt 15, 3, 16, 0, 0, 0, [], none, []),
  (4, .iload_n 1, 1, 0, 0, 0, 0, [], none, []),
  (5, .aload_n 0, 1, 0, 0, 0, 0, [], none, []),
  (6, .getfield 143, 3, 10, 0, 0, 0, [], none, [997]),
  (9, .if_icmp .ge 7, 3, 16, 0, 0, 0, [], none, []),
  (12, .iconst 1, 1, 0, 0, 1, 0, [], none, []),
  (13, .goto 4, 3, 17, 0, 0, 0, [], none, []),
  (16, .iconst 0, 1, 0, 0, 0, 0, [], none, []),
  (17, .ireturn, 1, 0, 0, 0, 0, [], none, [])]
theorem k_Mo_isState : zOK m_Mo_isState P_Mo_isState := (by decide +kernel : P_Mo_isState.all (zchk m_Mo_isState.1.cls m_Mo_isState.2.1) = true)

def P_Mo_state : List zEn := [
  (0, .iload_n 1, 1, 0, 0, 0, 0, [], none, []),
  (1, .i2l, 1, 0, 0, 0, 0, [], none, []),
  (2, .lconst 0, 1, 0, 0, 0, 0, [], none, []),
  (3, .ldc2_w 146, 3, 0, 0, 0, 99, [], none, [1162]),
  (6, .invokestatic 148, 3, 0, 3, 0, 0, [], some m_Mo_isIn, [1163, 1164, 76, 1165]),
  (9, .ifCond .eq 15, 3, 24, 0, 0, 0, [], none, []),
  (12, .iload_n 2, 1, 0, 0, 0, 0, [], none, []),
  (13, .i2l, 1, 0, 0, 0, 0, [], none, []),
  (14, .lconst 0, 1, 0, 0, 0, 0, [], none, []),
  (15, .ldc2_w 152, 3, 0, 0, 0, 7, [], none, [1166]),
  (18, .invokestatic 148, 3, 0, 3, 0, 0, [], some m_Mo_isIn, [1163, 1164, 76, 1165]),
  (21, .ifCond .ne 6, 3, 27, 0, 0, 0, [], none, []),
  (24, .bipush (-2), 2, 0, 0, -2, 0, [], none, []),
  (26, .ireturn, 1, 0, 0, 0, 0, [], none, []),
  (27, .aload_n 0, 1, 0, 0, 0, 0, [], none, []),
  (28, .getfield 143, 3, 10, 0, 0, 0, [], none, [997]),
  (31, .bipush 10, 2, 0, 0, 10, 0, [], none, []),
  (33, .if_icmp .ne 6, 3, 39, 0, 0, 0, [], none, []),
  (36, .bipush (-4), 2, 0, 0, -4, 0, [], none, []),
  (38, .ireturn, 1, 0, 0, 0, 0, [], none, []),
  (39, .aload_n 0, 1, 0, 0, 0, 0, [], none, []),
  (40, .getfield 7, 3, 10, 1, 0, 0, [], none, [998]),
  (43, .aload_n 0, 1, 0, 0, 0, 0, [], none, []),
  (44, .getfield 143, 3, 10, 0, 0, 0, [], none, [997]),
  (47, .iload_n 1, 1, 0, 0, 0, 0, [], none, []),
  (48, .iastore, 1, 0, 0, 0, 0, [], none, []),
  (49, .aload_n 0, 1, 0, 0, 0, 0, [], none, []),
  (50, .getfield 13, 3, 10, 2, 0, 0, [], none, [999]),
  (53, .aload_n 0, 1, 0, 0, 0, 0, [], none, []),
  (54, .getfield 143, 3, 10, 0, 0, 0, [], none, [997]),
  (57, .iload_n 2, 1, 0, 0, 0, 0, [], none, []),
  (58, .iastore, 1, 0, 0, 0, 0, [], none, []),
  (59, .aload_n 0, 1, 0, 0, 0, 0, [], none, []),
  (60, .dup, 1, 0, 0, 0, 0, [], none, []),
  (61, .getfield 143, 3, 10, 0, 0, 0, [], none, [997]),
  (64, .iconst 1, 1, 0, 0, 1, 0, [], none, []),
  (65, .iadd, 1, 0, 0, 0, 0, [], none, []),
  (66, .putfield 143, 3, 10, 0, 0, 0, [], none, [997]),
  (69, .aload_n 0, 1, 0, 0, 0, 0, [], none, []),
  (70, .getfield 143, 3, 10, 0, 0, 0, [], none, [997]),
  (73, .iconst 1, 1, 0, 0, 1, 0, [], none, []),
  (74, .isub, 1, 0, 0, 0, 0, [], none, []),
  (75, .ireturn, 1, 0, 0, 0, 0, [], none, [])]
theorem k_Mo_state : zOK m_Mo_state P_Mo_state := (by decide +kernel : P_Mo_state.all (zchk m_Mo_state.1.cls m_Mo_state.2.1) = true)

def P_Mo_person : List zEn := [
  (0, .iload_n 2, 1, 0, 0, 0, 0, [], none, []),
  (1, .iconst 3, 1, 0, 0, 3, 0, [], none, []),
  (2, .if_icmp .eq 8, 3, 10, 0, 0, 0, [], none, []),
  (5, .iload_n 2, 1, 0, 0, 0, 0, [], none, []),
  (6, .iconst 4, 1, 0, 0, 4, 0, [], none, []),
  (7, .if_icmp .ne 7, 3, 14, 0, 0, 0, [], none, []),
  (10, .iconst 1, 1, 0, 0, 1, 0, [], none, []),
  (11, .goto 4, 3, 15, 0, 0, 0, [], none, []),
  (14, .iconst 0, 1, 0, 0, 0, 0, [], none, []),
  (15, .istore 6, 2, 0, 0, 0, 0, [], none, []),
  (17, .aload_n 0, 1, 0, 0, 0, 0, [], none, []),
  (18, .iload_n 1, 1, 0, 0, 0, 0, [], none, []),
  (19, .invokevirtual 154, 3, 10, 1, 0, 0, [], some m_Mo_isState, [1171, 1173, 34, 76, 1174]),
  (22, .ifCond .eq 17, 3, 39, 0, 0, 0, [], none, []),
  (25, .iload 6, 2, 0, 0, 0, 0, [], none, []),
  (27, .ifCond .eq 14, 3, 41, 0, 0, 0, [], none, []),
  (30, .aload_n 0, 1, 0, 0, 0, 0, [], none, []),
  (31, .iload 5, 2, 0, 0, 0, 0, [], none, []),
  (33, .invokevirtual 158, 3, 10, 1, 0, 0, [], some m_Mo_isPerson, [1175, 1177, 35, 76, 1178]),
  (36, .ifCond .ne 5, 3, 41, 0, 0, 0, [], none, []),
  (39, .iconst (-1), 1, 0, 0, -1, 0, [], none, []),
  (40, .ireturn, 1, 0, 0, 0, 0, [], none, []),
  (41, .iload_n 2, 1, 0, 0, 0, 0, [], none, []),
  (42, .i2l, 1, 0, 0, 0, 0, [], none, []),
  (43, .lconst 0, 1, 0, 0, 0, 0, [], none, []),
  (44, .ldc2_w 161, 3, 0, 0, 0, 5, [], none, [1179]),
  (47, .invokestatic 148, 3, 0, 3, 0, 0, [], some m_Mo_isIn, [1163, 1164, 76, 1165]),
  (50, .ifCond .eq 32, 3, 82, 0, 0, 0, [], none, []),
  (53, .iload_n 3, 1, 0, 0, 0, 0, [], none, []),
  (54, .i2l, 1, 0, 0, 0, 0, [], none, []),
  (55, .lconst 0, 1, 0, 0, 0, 0, [], none, []),
  (56, .ldc2_w 163, 3, 0, 0, 0, 9, [], none, [1180]),
  (59, .invokestatic 148, 3, 0, 3, 0, 0, [], some m_Mo_isIn, [1163, 1164, 76, 1165]),
  (62, .ifCond .eq 20, 3, 82, 0, 0, 0, [], none, []),
  (65, .iload 4, 2, 0, 0, 0, 0, [], none, []),
  (67, .i2l, 1, 0, 0, 0, 0, [], none, []),
  (68, .lconst 0, 1, 0, 0, 0, 0, [], none, []),
  (69, .ldc2_w 165, 3, 0, 0, 0, 9999, [], none, [1181]),
  (72, .invokestatic 148, 3, 0, 3, 0, 0, [], some m_Mo_isIn, [1163, 1164, 76, 1165]),
  (75, .ifCond .eq 7, 3, 82, 0, 0, 0, [], none, []),
  (78, .iconst 1, 1, 0, 0, 1, 0, [], none, []),
  (79, .goto 4, 3, 83, 0, 0, 0, [], none, []),
  (82, .iconst 0, 1, 0, 0, 0, 0, [], none, []),
  (83, .istore 7, 2, 0, 0, 0, 0, [], none, []),
  (85, .iload 7, 2, 0, 0, 0, 0, [], none, []),
  (87, .ifCond .eq 46, 3, 133, 0, 0, 0, [], none, []),
  (90, .iload 6, 2, 0, 0, 0, 0, [], none, []),
  (92, .ifCond .eq 32, 3, 124, 0, 0, 0, [], none, []),
  (95, .aload_n 0, 1, 0, 0, 0, 0, [], none, []),
  (96, .getfield 26, 3, 10, 7, 0, 0, [], none, [1004]),
  (99, .iload 5, 2, 0, 0, 0, 0, [], none, []),
  (101, .iaload, 1, 0, 0, 0, 0, [], none, []),
  (102, .ifCond .eq 27, 3, 129, 0, 0, 0, [], none, []),
  (105, .iload_n 2, 1, 0, 0, 0, 0, [], none, []),
  (106, .iconst 3, 1, 0, 0, 3, 0, [], none, []),
  (107, .if_icmp .ne 26, 3, 133, 0, 0, 0, [], none, []),
  (110, .aload_n 0, 1, 0, 0, 0, 0, [], none, []),
  (111, .getfield 26, 3, 10, 7, 0, 0, [], none, [1004]),
  (114, .iload 5, 2, 0, 0, 0, 0, [], none, []),
  (116, .iaload, 1, 0, 0, 0, 0, [], none, []),
  (117, .iconst 2, 1, 0, 0, 2, 0, [], none, []),
  (118, .if_icmp .ne 15, 3, 133, 0, 0, 0, [], none, []),
  (121, .goto 8, 3, 129, 0, 0, 0, [], none, []),
  (124, .iload 5, 2, 0, 0, 0, 0, [], none, []),
  (126, .ifCond .ne 7, 3, 133, 0, 0, 0, [], none, []),
  (129, .iconst 1, 1, 0, 0, 1, 0, [], none, []),
  (130, .goto 4, 3, 134, 0, 0, 0, [], none, []),
  (133, .iconst 0, 1, 0, 0, 0, 0, [], none, []),
  (134, .istore 7, 2, 0, 0, 0, 0, [], none, []),
  (136, .iload 7, 2, 0, 0, 0, 0, [], none, []),
  (138, .ifCond .ne 6, 3, 144, 0, 0, 0, [], none, []),
  (141, .bipush (-2), 2, 0, 0, -2, 0, [], none, []),
  (143, .ireturn, 1, 0, 0, 0, 0, [], none, []),
  (144, .aload_n 0, 1, 0, 0, 0, 0, [], none, []),
  (145, .getfield 140, 3, 10, 5, 0, 0, [], none, [1002]),
  (148, .bipush 20, 2, 0, 0, 20, 0, [], none, []),
  (150, .if_icmp .ne 6, 3, 156, 0, 0, 0, [], none, []),
  (153, .bipush (-4), 2, 0, 0, -4, 0, [], none, []),
  (155, .ireturn, 1, 0, 0, 0, 0, [], none, []),
  (156, .aload_n 0, 1, 0, 0, 0, 0, [], none, []),
  (157, .getfield 23, 3, 10, 6, 0, 0, [], none, [1003]),
  (160, .aload_n 0, 1, 0, 0, 0, 0, [], none, []),
  (161, .getfield 140, 3, 10, 5, 0, 0, [], none, [1002]),
  (164, .iload_n 1, 1, 0, 0, 0, 0, [], none, []),
  (165, .iastore, 1, 0, 0, 0, 0, [], none, []),
  (166, .aload_n 0, 1, 0, 0, 0, 0, [], none, []),
  (167, .getfield 26, 3, 10, 7, 0, 0, [], none, [1004]),
  (170, .aload_n 0, 1, 0, 0, 0, 0, [], none, []),
  (171, .getfield 140, 3, 10, 5, 0, 0, [], none, [1002]),
  (174, .iload_n 2, 1, 0, 0, 0, 0, [], none, []),
  (175, .iastore, 1, 0, 0, 0, 0, [], none, []),
  (176, .aload_n 0, 1, 0, 0, 0, 0, [], none, []),
  (177, .getfield 29, 3, 10, 8, 0, 0, [], none, [1005]),
  (180, .aload_n 0, 1, 0, 0, 0, 0, [], none, []),
  (181, .getfield 140, 3, 10, 5, 0, 0, [], none, [1002]),
  (184, .iload_n 3, 1, 0, 0, 0, 0, [], none, []),
  (185, .iastore, 1, 0, 0, 0, 0, [], none, []),
  (186, .aload_n 0, 1, 0, 0, 0, 0, [], none, []),
  (187, .getfield 32, 3, 10, 9, 0, 0, [], none, [1006]),
  (190, .aload_n 0, 1, 0, 0, 0, 0, [], none, []),
  (191, .getfield 140, 3, 10, 5, 0, 0, [], none, [1002]),
  (194, .iload 4, 2, 0, 0, 0, 0, [], none, []),
  (196, .iastore, 1, 0, 0, 0, 0, [], none, []),
  (197, .aload_n 0, 1, 0, 0, 0, 0, [], none, []),
  (198, .getfield 35, 3, 10, 10, 0, 0, [], none, [1007]),
  (201, .aload_n 0, 1, 0, 0, 0, 0, [], none, []),
  (202, .getfield 140, 3, 10, 5, 0, 0, [], none, [1002]),
  (205, .iconst 0, 1, 0, 0, 0, 0, [], none, []),
  (206, .iastore, 1, 0, 0, 0, 0, [], none, []),
  (207, .aload_n 0, 1, 0, 0, 0, 0, [], none, []),
  (208, .getfield 38, 3, 10, 11, 0, 0, [], none, [1008]),
  (211, .aload_n 0, 1, 0, 0, 0, 0, [], none, []),
  (212, .getfield 140, 3, 10, 5, 0, 0, [], none, [1002]),
  (215, .iload 6, 2, 0, 0, 0, 0, [], none, []),
  (217, .ifCond .eq 8, 3, 225, 0, 0, 0, [], none, []),
  (220, .iload 5, 2, 0, 0, 0, 0, [], none, []),
  (222, .goto 4, 3, 226, 0, 0, 0, [], none, []),
  (225, .iconst (-1), 1, 0, 0, -1, 0, [], none, []),
  (226, .iastore, 1, 0, 0, 0, 0, [], none, []),
  (227, .aload_n 0, 1, 0, 0, 0, 0, [], none, []),
  (228, .getfield 41, 3, 10, 12, 0, 0, [], none, [1009]),
  (231, .aload_n 0, 1, 0, 0, 0, 0, [], none, []),
  (232, .getfield 140, 3, 10, 5, 0, 0, [], none, [1002]),
  (235, .iconst 1, 1, 0, 0, 1, 0, [], none, []),
  (236, .bastore, 1, 0, 0, 0, 0, [], none, []),
  (237, .aload_n 0, 1, 0, 0, 0, 0, [], none, []),
  (238, .dup, 1, 0, 0, 0, 0, [], none, []),
  (239, .getfield 140, 3, 10, 5, 0, 0, [], none, [1002]),
  (242, .iconst 1, 1, 0, 0, 1, 0, [], none, []),
  (243, .iadd, 1, 0, 0, 0, 0, [], none, []),
  (244, .putfield 140, 3, 10, 5, 0, 0, [], none, [1002]),
  (247, .aload_n 0, 1, 0, 0, 0, 0, [], none, []),
  (248, .getfield 140, 3, 10, 5, 0, 0, [], none, [1002]),
  (251, .iconst 1, 1, 0, 0, 1, 0, [], none, []),
  (252, .isub, 1, 0, 0, 0, 0, [], none, []),
  (253, .ireturn, 1, 0, 0, 0, 0, [], none, [])]
theorem k_Mo_person : zOK m_Mo_person P_Mo_person := (by decide +kernel : P_Mo_person.all (zchk m_Mo_person.1.cls m_Mo_person.2.1) = true)

def P_Mo_paper : List zEn := [
  (0, .aload_n 0, 1, 0, 0, 0, 0, [], none, []),
  (1, .iload_n 1, 1, 0, 0, 0, 0, [], none, []),
  (2, .invokevirtual 158, 3, 10, 1, 0, 0, [], some m_Mo_isPerson, [1175, 1177, 35, 76, 1178]),
  (5, .ifCond .ne 5, 3, 10, 0, 0, 0, [], none, []),
  (8, .iconst (-1), 1, 0, 0, -1, 0, [], none, []),
  (9, .ireturn, 1, 0, 0, 0, 0, [], none, []),
  (10, .iload_n 2, 1, 0, 0, 0, 0, [], none, []),
  (11, .i2l, 1, 0, 0, 0, 0, [], none, []),
  (12, .lconst 0, 1, 0, 0, 0, 0, [], none, []),
  (13, .ldc2_w 167, 3, 0, 0, 0, 99999999, [], none, [1186]),
  (16, .invokestatic 148, 3, 0, 3, 0, 0, [], some m_Mo_isIn, [1163, 1164, 76, 1165]),
  (19, .ifCond .ne 6, 3, 25, 0, 0, 0, [], none, []),
  (22, .bipush (-2), 2, 0, 0, -2, 0, [], none, []),
  (24, .ireturn, 1, 0, 0, 0, 0, [], none, []),
  (25, .aload_n 0, 1, 0, 0, 0, 0, [], none, []),
  (26, .getfield 35, 3, 10, 10, 0, 0, [], none, [1007]),
  (29, .iload_n 1, 1, 0, 0, 0, 0, [], none, []),
  (30, .iaload, 1, 0, 0, 0, 0, [], none, []),
  (31, .istore_n 3, 1, 0, 0, 0, 0, [], none, []),
  (32, .aload_n 0, 1, 0, 0, 0, 0, [], none, []),
  (33, .getfield 35, 3, 10, 10, 0, 0, [], none, [1007]),
  (36, .iload_n 1, 1, 0, 0, 0, 0, [], none, []),
  (37, .iload_n 2, 1, 0, 0, 0, 0, [], none, []),
  (38, .iastore, 1, 0, 0, 0, 0, [], none, []),
  (39, .iload_n 3, 1, 0, 0, 0, 0, [], none, []),
  (40, .ireturn, 1, 0, 0, 0, 0, [], none, [])]
theorem k_Mo_paper : zOK m_Mo_paper P_Mo_paper := (by decide +kernel : P_Mo_paper.all (zchk m_Mo_paper.1.cls m_Mo_paper.2.1) = true)

def P_Mo_there : List zEn := [
  (0, .aload_n 0, 1, 0, 0, 0, 0, [], none, []),
  (1, .iload_n 1, 1, 0, 0, 0, 0, [], none, []),
  (2, .invokevirtual 158, 3, 10, 1, 0, 0, [], some m_Mo_isPerson, [1175, 1177, 35, 76, 1178]),
  (5, .ifCond .ne 5, 3, 10, 0, 0, 0, [], none, []),
  (8, .iconst (-1), 1, 0, 0, -1, 0, [], none, []),
  (9, .ireturn, 1, 0, 0, 0, 0, [], none, []),
  (10, .iload_n 2, 1, 0, 0, 0, 0, [], none, []),
  (11, .i2l, 1, 0, 0, 0, 0, [], none, []),
  (12, .lconst 0, 1, 0, 0, 0, 0, [], none, []),
  (13, .lconst 1, 1, 0, 0, 0, 1, [], none, []),
  (14, .invokestatic 148, 3, 0, 3, 0, 0, [], some m_Mo_isIn, [1163, 1164, 76, 1165]),
  (17, .ifCond .ne 6, 3, 23, 0, 0, 0, [], none, []),
  (20, .bipush (-2), 2, 0, 0, -2, 0, [], none, []),
  (22, .ireturn, 1, 0, 0, 0, 0, [], none, []),
  (23, .aload_n 0, 1, 0, 0, 0, 0, [], none, []),
  (24, .getfield 41, 3, 10, 12, 0, 0, [], none, [1009]),
  (27, .iload_n 1, 1, 0, 0, 0, 0, [], none, []),
  (28, .baload, 1, 0, 0, 0, 0, [], none, []),
  (29, .istore_n 3, 1, 0, 0, 0, 0, [], none, []),
  (30, .aload_n 0, 1, 0, 0, 0, 0, [], none, []),
  (31, .getfield 41, 3, 10, 12, 0, 0, [], none, [1009]),
  (34, .iload_n 1, 1, 0, 0, 0, 0, [], none, []),
  (35, .iload_n 2, 1, 0, 0, 0, 0, [], none, []),
  (36, .iconst 1, 1, 0, 0, 1, 0, [], none, []),
  (37, .if_icmp .ne 7, 3, 44, 0, 0, 0, [], none, []),
  (40, .iconst 1, 1, 0, 0, 1, 0, [], none, []),
  (41, .goto 4, 3, 45, 0, 0, 0, [], none, []),
  (44, .iconst 0, 1, 0, 0, 0, 0, [], none, []),
  (45, .bastore, 1, 0, 0, 0, 0, [], none, []),
  (46, .iconst 0, 1, 0, 0, 0, 0, [], none, []),
  (47, .istore 4, 2, 0, 0, 0, 0, [], none, []),
  (49, .iload 4, 2, 0, 0, 0, 0, [], none, []),
  (51, .bipush 48, 2, 0, 0, 48, 0, [], none, []),
  (53, .if_icmp .ge 42, 3, 95, 0, 0, 0, [], none, []),
  (56, .iload_n 2, 1, 0, 0, 0, 0, [], none, []),
  (57, .ifCond .ne 38, 3, 95, 0, 0, 0, [], none, []),
  (60, .aload_n 0, 1, 0, 0, 0, 0, [], none, []),
  (61, .getfield 118, 3, 10, 45, 0, 0, [], none, [1042]),
  (64, .iload 4, 2, 0, 0, 0, 0, [], none, []),
  (66, .aload_n 0, 1, 0, 0, 0, 0, [], none, []),
  (67, .getfield 118, 3, 10, 45, 0, 0, [], none, [1042]),
  (70, .iload 4, 2, 0, 0, 0, 0, [], none, []),
  (72, .iaload, 1, 0, 0, 0, 0, [], none, []),
  (73, .iload_n 1, 1, 0, 0, 0, 0, [], none, []),
  (74, .if_icmp .ne 7, 3, 81, 0, 0, 0, [], none, []),
  (77, .iconst (-1), 1, 0, 0, -1, 0, [], none, []),
  (78, .goto 10, 3, 88, 0, 0, 0, [], none, []),
  (81, .aload_n 0, 1, 0, 0, 0, 0, [], none, []),
  (82, .getfield 118, 3, 10, 45, 0, 0, [], none, [1042]),
  (85, .iload 4, 2, 0, 0, 0, 0, [], none, []),
  (87, .iaload, 1, 0, 0, 0, 0, [], none, []),
  (88, .iastore, 1, 0, 0, 0, 0, [], none, []),
  (89, .iinc 4 1, 3, 0, 0, 1, 0, [], none, []),
  (92, .goto (-43), 3, 49, 0, 0, 0, [], none, []),
  (95, .iload_n 3, 1, 0, 0, 0, 0, [], none, []),
  (96, .ifCond .eq 7, 3, 103, 0, 0, 0, [], none, []),
  (99, .iconst 1, 1, 0, 0, 1, 0, [], none, []),
  (100, .goto 4, 3, 104, 0, 0, 0, [], none, []),
  (103, .iconst 0, 1, 0, 0, 0, 0, [], none, []),
  (104, .ireturn, 1, 0, 0, 0, 0, [], none, [])]
theorem k_Mo_there : zOK m_Mo_there P_Mo_there := (by decide +kernel : P_Mo_there.all (zchk m_Mo_there.1.cls m_Mo_there.2.1) = true)

def P_Mo_split : List zEn := [
  (0, .aload_n 0, 1, 0, 0, 0, 0, [], none, []),
  (1, .iload_n 1, 1, 0, 0, 0, 0, [], none, []),
  (2, .invokevirtual 154, 3, 10, 1, 0, 0, [], some m_Mo_isState, [1171, 1173, 34, 76, 1174]),
  (5, .ifCond .ne 5, 3, 10, 0, 0, 0, [], none, []),
  (8, .iconst (-1), 1, 0, 0, -1, 0, [], none, []),
  (9, .ireturn, 1, 0, 0, 0, 0, [], none, []),
  (10, .iload_n 2, 1, 0, 0, 0, 0, [], none, []),
  (11, .i2l, 1, 0, 0, 0, 0, [], none, []),
  (12, .lconst 0, 1, 0, 0, 0, 0, [], none, []),
  (13, .ldc2_w 146, 3, 0, 0, 0, 99, [], none, [1162]),
  (16, .invokestatic 148, 3, 0, 3, 0, 0, [], some m_Mo_isIn, [1163, 1164, 76, 1165]),
  (19, .ifCond .eq 31, 3, 50, 0, 0, 0, [], none, []),
  (22, .iload_n 3, 1, 0, 0, 0, 0, [], none, []),
  (23, .i2l, 1, 0, 0, 0, 0, [], none, []),
  (24, .lconst 0, 1, 0, 0, 0, 0, [], none, []),
  (25, .ldc2_w 152, 3, 0, 0, 0, 7, [], none, [1166]),
  (28, .invokestatic 148, 3, 0, 3, 0, 0, [], some m_Mo_isIn, [1163, 1164, 76, 1165]),
  (31, .ifCond .eq 19, 3, 50, 0, 0, 0, [], none, []),
  (34, .iload 4, 2, 0, 0, 0, 0, [], none, []),
  (36, .ifCond .lt 14, 3, 50, 0, 0, 0, [], none, []),
  (39, .iload 4, 2, 0, 0, 0, 0, [], none, []),
  (41, .iconst 1, 1, 0, 0, 1, 0, [], none, []),
  (42, .aload_n 0, 1, 0, 0, 0, 0, [], none, []),
  (43, .getfield 140, 3, 10, 5, 0, 0, [], none, [1002]),
  (46, .ishl, 1, 0, 0, 0, 0, [], none, []),
  (47, .if_icmp .lt 6, 3, 53, 0, 0, 0, [], none, []),
  (50, .bipush (-2), 2, 0, 0, -2, 0, [], none, []),
  (52, .ireturn, 1, 0, 0, 0, 0, [], none, []),
  (53, .aload_n 0, 1, 0, 0, 0, 0, [], none, []),
  (54, .getfield 143, 3, 10, 0, 0, 0, [], none, [997]),
  (57, .bipush 10, 2, 0, 0, 10, 0, [], none, []),
  (59, .if_icmp .ne 6, 3, 65, 0, 0, 0, [], none, []),
  (62, .bipush (-4), 2, 0, 0, -4, 0, [], none, []),
  (64, .ireturn, 1, 0, 0, 0, 0, [], none, []),
  (65, .aload_n 0, 1, 0, 0, 0, 0, [], none, []),
  (66, .iload_n 2, 1, 0, 0, 0, 0, [], none, []),
  (67, .iload_n 3, 1, 0, 0, 0, 0, [], none, []),
  (68, .invokevirtual 169, 3, 10, 2, 0, 0, [], some m_Mo_state, [1195, 1159, 1160, 76, 1161]),
  (71, .istore 5, 2, 0, 0, 0, 0, [], none, []),
  (73, .iconst 0, 1, 0, 0, 0, 0, [], none, []),
  (74, .istore 6, 2, 0, 0, 0, 0, [], none, []),
  (76, .iload 6, 2, 0, 0, 0, 0, [], none, []),
  (78, .aload_n 0, 1, 0, 0, 0, 0, [], none, []),
  (79, .getfield 140, 3, 10, 5, 0, 0, [], none, [1002]),
  (82, .if_icmp .ge 50, 3, 132, 0, 0, 0, [], none, []),
  (85, .aload_n 0, 1, 0, 0, 0, 0, [], none, []),
  (86, .getfield 23, 3, 10, 6, 0, 0, [], none, [1003]),
  (89, .iload 6, 2, 0, 0, 0, 0, [], none, []),
  (91, .iload 4, 2, 0, 0, 0, 0, [], none, []),
  (93, .iload 6, 2, 0, 0, 0, 0, [], none, []),
  (95, .ishr, 1, 0, 0, 0, 0, [], none, []),
  (96, .iconst 1, 1, 0, 0, 1, 0, [], none, []),
  (97, .iand, 1, 0, 0, 0, 0, [], none, []),
  (98, .iconst 1, 1, 0, 0, 1, 0, [], none, []),
  (99, .if_icmp .ne 19, 3, 118, 0, 0, 0, [], none, []),
  (102, .aload_n 0, 1, 0, 0, 0, 0, [], none, []),
  (103, .getfield 23, 3, 10, 6, 0, 0, [], none, [1003]),
  (106, .iload 6, 2, 0, 0, 0, 0, [], none, []),
  (108, .iaload, 1, 0, 0, 0, 0, [], none, []),
  (109, .iload_n 1, 1, 0, 0, 0, 0, [], none, []),
  (110, .if_icmp .ne 8, 3, 118, 0, 0, 0, [], none, []),
  (113, .iload 5, 2, 0, 0, 0, 0, [], none, []),
  (115, .goto 10, 3, 125, 0, 0, 0, [], none, []),
  (118, .aload_n 0, 1, 0, 0, 0, 0, [], none, []),
  (119, .getfield 23, 3, 10, 6, 0, 0, [], none, [1003]),
  (122, .iload 6, 2, 0, 0, 0, 0, [], none, []),
  (124, .iaload, 1, 0, 0, 0, 0, [], none, []),
  (125, .iastore, 1, 0, 0, 0, 0, [], none, []),
  (126, .iinc 6 1, 3, 0, 0, 1, 0, [], none, []),
  (129, .goto (-53), 3, 76, 0, 0, 0, [], none, []),
  (132, .iload 5, 2, 0, 0, 0, 0, [], none, []),
  (134, .ireturn, 1, 0, 0, 0, 0, [], none, [])]
theorem k_Mo_split : zOK m_Mo_split P_Mo_split := (by decide +kernel : P_Mo_split.all (zchk m_Mo_split.1.cls m_Mo_split.2.1) = true)

def P_Mo_plainRank : List zEn := [
  (0, .aload_n 0, 1, 0, 0, 0, 0, [], none, []),
  (1, .getfield 26, 3, 10, 7, 0, 0, [], none, [1004]),
  (4, .iload_n 1, 1, 0, 0, 0, 0, [], none, []),
  (5, .iaload, 1, 0, 0, 0, 0, [], none, []),
  (6, .ifCond .ne 17, 3, 23, 0, 0, 0, [], none, []),
  (9, .aload_n 0, 1, 0, 0, 0, 0, [], none, []),
  (10, .getfield 35, 3, 10, 10, 0, 0, [], none, [1007]),
  (13, .iload_n 1, 1, 0, 0, 0, 0, [], none, []),
  (14, .iaload, 1, 0, 0, 0, 0, [], none, []),
  (15, .ifCond .ne 8, 3, 23, 0, 0, 0, [], none, []),
  (18, .bipush 9, 2, 0, 0, 9, 0, [], none, []),
  (20, .goto 9, 3, 29, 0, 0, 0, [], none, []),
  (23, .aload_n 0, 1, 0, 0, 0, 0, [], none, []),
  (24, .getfield 29, 3, 10, 8, 0, 0, [], none, [1005]),
  (27, .iload_n 1, 1, 0, 0, 0, 0, [], none, []),
  (28, .iaload, 1, 0, 0, 0, 0, [], none, []),
  (29, .ireturn, 1, 0, 0, 0, 0, [], none, [])]
theorem k_Mo_plainRank : zOK m_Mo_plainRank P_Mo_plainRank := (by decide +kernel : P_Mo_plainRank.all (zchk m_Mo_plainRank.1.cls m_Mo_plainRank.2.1) = true)

def P_Mo_shown : List zEn := [
  (0, .iload_n 0, 1, 0, 0, 0, 0, [], none, []),
  (1, .ifCond .ne 8, 3, 9, 0, 0, 0, [], none, []),
  (4, .ldc 173, 2, 0, 0, 99999999, 0, [], none, [1211]),
  (6, .goto 4, 3, 10, 0, 0, 0, [], none, []),
  (9, .iload_n 0, 1, 0, 0, 0, 0, [], none, []),
  (10, .ireturn, 1, 0, 0, 0, 0, [], none, [])]
theorem k_Mo_shown : zOK m_Mo_shown P_Mo_shown := (by decide +kernel : P_Mo_shown.all (zchk m_Mo_shown.1.cls m_Mo_shown.2.1) = true)

def P_Mo_field : List zEn := [
  (0, .iload_n 2, 1, 0, 0, 0, 0, [], none, []),
  (1, .tableswitch 162 0 5 #[39, 100, 129, 141, 148, 155], 39, 163, 0, 0, 0, [(0, 40), (1, 101), (2, 130), (3, 142), (4, 149), (5, 156)], none, []),
  (40, .aload_n 0, 1, 0, 0, 0, 0, [], none, []),
  (41, .getfield 26, 3, 10, 7, 0, 0, [], none, [1004]),
  (44, .iload_n 1, 1, 0, 0, 0, 0, [], none, []),
  (45, .iaload, 1, 0, 0, 0, 0, [], none, []),
  (46, .iconst 4, 1, 0, 0, 4, 0, [], none, []),
  (47, .if_icmp .ne 29, 3, 76, 0, 0, 0, [], none, []),
  (50, .aload_n 0, 1, 0, 0, 0, 0, [], none, []),
  (51, .aload_n 0, 1, 0, 0, 0, 0, [], none, []),
  (52, .getfield 38, 3, 10, 11, 0, 0, [], none, [1008]),
  (55, .iload_n 1, 1, 0, 0, 0, 0, [], none, []),
  (56, .iaload, 1, 0, 0, 0, 0, [], none, []),
  (57, .invokevirtual 174, 3, 10, 1, 0, 0, [], some m_Mo_plainRank, [1204, 1206, 37, 76, 1207]),
  (60, .iconst 1, 1, 0, 0, 1, 0, [], none, []),
  (61, .iadd, 1, 0, 0, 0, 0, [], none, []),
  (62, .istore_n 3, 1, 0, 0, 0, 0, [], none, []),
  (63, .iload_n 3, 1, 0, 0, 0, 0, [], none, []),
  (64, .bipush 9, 2, 0, 0, 9, 0, [], none, []),
  (66, .if_icmp .le 8, 3, 74, 0, 0, 0, [], none, []),
  (69, .bipush 9, 2, 0, 0, 9, 0, [], none, []),
  (71, .goto 4, 3, 75, 0, 0, 0, [], none, []),
  (74, .iload_n 3, 1, 0, 0, 0, 0, [], none, []),
  (75, .ireturn, 1, 0, 0, 0, 0, [], none, []),
  (76, .aload_n 0, 1, 0, 0, 0, 0, [], none, []),
  (77, .aload_n 0, 1, 0, 0, 0, 0, [], none, []),
  (78, .getfield 26, 3, 10, 7, 0, 0, [], none, [1004]),
  (81, .iload_n 1, 1, 0, 0, 0, 0, [], none, []),
  (82, .iaload, 1, 0, 0, 0, 0, [], none, []),
  (83, .iconst 3, 1, 0, 0, 3, 0, [], none, []),
  (84, .if_icmp .ne 12, 3, 96, 0, 0, 0, [], none, []),
  (87, .aload_n 0, 1, 0, 0, 0, 0, [], none, []),
  (88, .getfield 38, 3, 10, 11, 0, 0, [], none, [1008]),
  (91, .iload_n 1, 1, 0, 0, 0, 0, [], none, []),
  (92, .iaload, 1, 0, 0, 0, 0, [], none, []),
  (93, .goto 4, 3, 97, 0, 0, 0, [], none, []),
  (96, .iload_n 1, 1, 0, 0, 0, 0, [], none, []),
  (97, .invokevirtual 174, 3, 10, 1, 0, 0, [], some m_Mo_plainRank, [1204, 1206, 37, 76, 1207]),
  (100, .ireturn, 1, 0, 0, 0, 0, [], none, []),
  (101, .aload_n 0, 1, 0, 0, 0, 0, [], none, []),
  (102, .getfield 35, 3, 10, 10, 0, 0, [], none, [1007]),
  (105, .aload_n 0, 1, 0, 0, 0, 0, [], none, []),
  (106, .getfield 26, 3, 10, 7, 0, 0, [], none, [1004]),
  (109, .iload_n 1, 1, 0, 0, 0, 0, [], none, []),
  (110, .iaload, 1, 0, 0, 0, 0, [], none, []),
  (111, .iconst 3, 1, 0, 0, 3, 0, [], none, []),
  (112, .if_icmp .ne 12, 3, 124, 0, 0, 0, [], none, []),
  (115, .aload_n 0, 1, 0, 0, 0, 0, [], none, []),
  (116, .getfield 38, 3, 10, 11, 0, 0, [], none, [1008]),
  (119, .iload_n 1, 1, 0, 0, 0, 0, [], none, []),
  (120, .iaload, 1, 0, 0, 0, 0, [], none, []),
  (121, .goto 4, 3, 125, 0, 0, 0, [], none, []),
  (124, .iload_n 1, 1, 0, 0, 0, 0, [], none, []),
  (125, .iaload, 1, 0, 0, 0, 0, [], none, []),
  (126, .invokestatic 178, 3, 0, 1, 0, 0, [], some m_Mo_shown, [1208, 1209, 76, 1210]),
  (129, .ireturn, 1, 0, 0, 0, 0, [], none, []),
  (130, .aload_n 0, 1, 0, 0, 0, 0, [], none, []),
  (131, .getfield 7, 3, 10, 1, 0, 0, [], none, [998]),
  (134, .aload_n 0, 1, 0, 0, 0, 0, [], none, []),
  (135, .getfield 23, 3, 10, 6, 0, 0, [], none, [1003]),
  (138, .iload_n 1, 1, 0, 0, 0, 0, [], none, []),
  (139, .iaload, 1, 0, 0, 0, 0, [], none, []),
  (140, .iaload, 1, 0, 0, 0, 0, [], none, []),
  (141, .ireturn, 1, 0, 0, 0, 0, [], none, []),
  (142, .aload_n 0, 1, 0, 0, 0, 0, [], none, []),
  (143, .getfield 32, 3, 10, 9, 0, 0, [], none, [1006]),
  (146, .iload_n 1, 1, 0, 0, 0, 0, [], none, []),
  (147, .iaload, 1, 0, 0, 0, 0, [], none, []),
  (148, .ireturn, 1, 0, 0, 0, 0, [], none, []),
  (149, .aload_n 0, 1, 0, 0, 0, 0, [], none, []),
  (150, .getfield 26, 3, 10, 7, 0, 0, [], none, [1004]),
  (153, .iload_n 1, 1, 0, 0, 0, 0, [], none, []),
  (154, .iaload, 1, 0, 0, 0, 0, [], none, []),
  (155, .ireturn, 1, 0, 0, 0, 0, [], none, []),
  (156, .aload_n 0, 1, 0, 0, 0, 0, [], none, []),
  (157, .getfield 23, 3, 10, 6, 0, 0, [], none, [1003]),
  (160, .iload_n 1, 1, 0, 0, 0, 0, [], none, []),
  (161, .iaload, 1, 0, 0, 0, 0, [], none, []),
  (162, .ireturn, 1, 0, 0, 0, 0, [], none, []),
  (163, .aload_n 0, 1, 0, 0, 0, 0, [], none, []),
  (164, .getfield 13, 3, 10, 2, 0, 0, [], none, [999]),
  (167, .aload_n 0, 1, 0, 0, 0, 0, [], none, []),
  (168, .getfield 23, 3, 10, 6, 0, 0, [], none, [1003]),
  (171, .iload_n 1, 1, 0, 0, 0, 0, [], none, []),
  (172, .iaload, 1, 0, 0, 0, 0, [], none, []),
  (173, .iaload, 1, 0, 0, 0, 0, [], none, []),
  (174, .ireturn, 1, 0, 0, 0, 0, [], none, [])]
theorem k_Mo_field : zOK m_Mo_field P_Mo_field := (by decide +kernel : P_Mo_field.all (zchk m_Mo_field.1.cls m_Mo_field.2.1) = true)

def P_Mo_about : List zEn := [
  (0, .aload_n 0, 1, 0, 0, 0, 0, [], none, []),
  (1, .iload_n 1, 1, 0, 0, 0, 0, [], none, []),
  (2, .invokevirtual 158, 3, 10, 1, 0, 0, [], some m_Mo_isPerson, [1175, 1177, 35, 76, 1178]),
  (5, .ifCond .ne 5, 3, 10, 0, 0, 0, [], none, []),
  (8, .iconst (-1), 1, 0, 0, -1, 0, [], none, []),
  (9, .ireturn, 1, 0, 0, 0, 0, [], none, []),
  (10, .iload_n 2, 1, 0, 0, 0, 0, [], none, []),
  (11, .tableswitch 121 0 8 #[49, 56, 63, 70, 77, 84, 91, 99, 114], 49, 132, 0, 0, 0, [(0, 60), (1, 67), (2, 74), (3, 81), (4, 88), (5, 95), (6, 102), (7, 110), (8, 125)], none, []),
  (60, .aload_n 0, 1, 0, 0, 0, 0, [], none, []),
  (61, .getfield 26, 3, 10, 7, 0, 0, [], none, [1004]),
  (64, .iload_n 1, 1, 0, 0, 0, 0, [], none, []),
  (65, .iaload, 1, 0, 0, 0, 0, [], none, []),
  (66, .ireturn, 1, 0, 0, 0, 0, [], none, []),
  (67, .aload_n 0, 1, 0, 0, 0, 0, [], none, []),
  (68, .iload_n 1, 1, 0, 0, 0, 0, [], none, []),
  (69, .iconst 0, 1, 0, 0, 0, 0, [], none, []),
  (70, .invokevirtual 181, 3, 10, 2, 0, 0, [], some m_Mo_field, [1200, 1202, 36, 76, 1203]),
  (73, .ireturn, 1, 0, 0, 0, 0, [], none, []),
  (74, .aload_n 0, 1, 0, 0, 0, 0, [], none, []),
  (75, .iload_n 1, 1, 0, 0, 0, 0, [], none, []),
  (76, .iconst 1, 1, 0, 0, 1, 0, [], none, []),
  (77, .invokevirtual 181, 3, 10, 2, 0, 0, [], some m_Mo_field, [1200, 1202, 36, 76, 1203]),
  (80, .ireturn, 1, 0, 0, 0, 0, [], none, []),
  (81, .aload_n 0, 1, 0, 0, 0, 0, [], none, []),
  (82, .iload_n 1, 1, 0, 0, 0, 0, [], none, []),
  (83, .iconst 2, 1, 0, 0, 2, 0, [], none, []),
  (84, .invokevirtual 181, 3, 10, 2, 0, 0, [], some m_Mo_field, [1200, 1202, 36, 76, 1203]),
  (87, .ireturn, 1, 0, 0, 0, 0, [], none, []),
  (88, .aload_n 0, 1, 0, 0, 0, 0, [], none, []),
  (89, .getfield 32, 3, 10, 9, 0, 0, [], none, [1006]),
  (92, .iload_n 1, 1, 0, 0, 0, 0, [], none, []),
  (93, .iaload, 1, 0, 0, 0, 0, [], none, []),
  (94, .ireturn, 1, 0, 0, 0, 0, [], none, []),
  (95, .aload_n 0, 1, 0, 0, 0, 0, [], none, []),
  (96, .getfield 23, 3, 10, 6, 0, 0, [], none, [1003]),
  (99, .iload_n 1, 1, 0, 0, 0, 0, [], none, []),
  (100, .iaload, 1, 0, 0, 0, 0, [], none, []),
  (101, .ireturn, 1, 0, 0, 0, 0, [], none, []),
  (102, .aload_n 0, 1, 0, 0, 0, 0, [], none, []),
  (103, .iload_n 1, 1, 0, 0, 0, 0, [], none, []),
  (104, .bipush 6, 2, 0, 0, 6, 0, [], none, []),
  (106, .invokevirtual 181, 3, 10, 2, 0, 0, [], some m_Mo_field, [1200, 1202, 36, 76, 1203]),
  (109, .ireturn, 1, 0, 0, 0, 0, [], none, []),
  (110, .aload_n 0, 1, 0, 0, 0, 0, [], none, []),
  (111, .getfield 41, 3, 10, 12, 0, 0, [], none, [1009]),
  (114, .iload_n 1, 1, 0, 0, 0, 0, [], none, []),
  (115, .baload, 1, 0, 0, 0, 0, [], none, []),
  (116, .ifCond .eq 7, 3, 123, 0, 0, 0, [], none, []),
  (119, .iconst 1, 1, 0, 0, 1, 0, [], none, []),
  (120, .goto 4, 3, 124, 0, 0, 0, [], none, []),
  (123, .iconst 0, 1, 0, 0, 0, 0, [], none, []),
  (124, .ireturn, 1, 0, 0, 0, 0, [], none, []),
  (125, .aload_n 0, 1, 0, 0, 0, 0, [], none, []),
  (126, .getfield 38, 3, 10, 11, 0, 0, [], none, [1008]),
  (129, .iload_n 1, 1, 0, 0, 0, 0, [], none, []),
  (130, .iaload, 1, 0, 0, 0, 0, [], none, []),
  (131, .ireturn, 1, 0, 0, 0, 0, [], none, []),
  (132, .iconst (-1), 1, 0, 0, -1, 0, [], none, []),
  (133, .ireturn, 1, 0, 0, 0, 0, [], none, [])]
theorem k_Mo_about : zOK m_Mo_about P_Mo_about := (by decide +kernel : P_Mo_about.all (zchk m_Mo_about.1.cls m_Mo_about.2.1) = true)

def P_Mo_feed : List zEn := [
  (0, .iload_n 3, 1, 0, 0, 0, 0, [], none, []),
  (1, .i2l, 1, 0, 0, 0, 0, [], none, []),
  (2, .lconst 1, 1, 0, 0, 0, 1, [], none, []),
  (3, .ldc2_w 184, 3, 0, 0, 0, 8, [], none, [1216]),
  (6, .invokestatic 148, 3, 0, 3, 0, 0, [], some m_Mo_isIn, [1163, 1164, 76, 1165]),
  (9, .ifCond .ne 6, 3, 15, 0, 0, 0, [], none, []),
  (12, .bipush (-2), 2, 0, 0, -2, 0, [], none, []),
  (14, .ireturn, 1, 0, 0, 0, 0, [], none, []),
  (15, .aload_n 0, 1, 0, 0, 0, 0, [], none, []),
  (16, .getfield 186, 3, 10, 14, 0, 0, [], none, [1011]),
  (19, .iload_n 3, 1, 0, 0, 0, 0, [], none, []),
  (20, .iadd, 1, 0, 0, 0, 0, [], none, []),
  (21, .sipush 200, 3, 0, 0, 200, 0, [], none, []),
  (24, .if_icmp .le 6, 3, 30, 0, 0, 0, [], none, []),
  (27, .bipush (-4), 2, 0, 0, -4, 0, [], none, []),
  (29, .ireturn, 1, 0, 0, 0, 0, [], none, []),
  (30, .iload_n 3, 1, 0, 0, 0, 0, [], none, []),
  (31, .iconst 1, 1, 0, 0, 1, 0, [], none, []),
  (32, .isub, 1, 0, 0, 0, 0, [], none, []),
  (33, .istore 4, 2, 0, 0, 0, 0, [], none, []),
  (35, .iload 4, 2, 0, 0, 0, 0, [], none, []),
  (37, .ifCond .lt 37, 3, 74, 0, 0, 0, [], none, []),
  (40, .aload_n 0, 1, 0, 0, 0, 0, [], none, []),
  (41, .getfield 44, 3, 10, 13, 0, 0, [], none, [1010]),
  (44, .aload_n 0, 1, 0, 0, 0, 0, [], none, []),
  (45, .getfield 186, 3, 10, 14, 0, 0, [], none, [1011]),
  (48, .lload_n 1, 1, 0, 0, 0, 0, [], none, []),
  (49, .bipush 8, 2, 0, 0, 8, 0, [], none, []),
  (51, .iload 4, 2, 0, 0, 0, 0, [], none, []),
  (53, .imul, 1, 0, 0, 0, 0, [], none, []),
  (54, .lshr, 1, 0, 0, 0, 0, [], none, []),
  (55, .l2i, 1, 0, 0, 0, 0, [], none, []),
  (56, .i2b, 1, 0, 0, 0, 0, [], none, []),
  (57, .bastore, 1, 0, 0, 0, 0, [], none, []),
  (58, .aload_n 0, 1, 0, 0, 0, 0, [], none, []),
  (59, .dup, 1, 0, 0, 0, 0, [], none, []),
  (60, .getfield 186, 3, 10, 14, 0, 0, [], none, [1011]),
  (63, .iconst 1, 1, 0, 0, 1, 0, [], none, []),
  (64, .iadd, 1, 0, 0, 0, 0, [], none, []),
  (65, .putfield 186, 3, 10, 14, 0, 0, [], none, [1011]),
  (68, .iinc 4 (-1), 3, 0, 0, -1, 0, [], none, []),
  (71, .goto (-36), 3, 35, 0, 0, 0, [], none, []),
  (74, .aload_n 0, 1, 0, 0, 0, 0, [], none, []),
  (75, .getfield 186, 3, 10, 14, 0, 0, [], none, [1011]),
  (78, .ireturn, 1, 0, 0, 0, 0, [], none, [])]
theorem k_Mo_feed : zOK m_Mo_feed P_Mo_feed := (by decide +kernel : P_Mo_feed.all (zchk m_Mo_feed.1.cls m_Mo_feed.2.1) = true)

def P_Mo_wipe : List zEn := [
  (0, .aload_n 0, 1, 0, 0, 0, 0, [], none, []),
  (1, .getfield 186, 3, 10, 14, 0, 0, [], none, [1011]),
  (4, .istore_n 1, 1, 0, 0, 0, 0, [], none, []),
  (5, .aload_n 0, 1, 0, 0, 0, 0, [], none, []),
  (6, .iconst 0, 1, 0, 0, 0, 0, [], none, []),
  (7, .putfield 186, 3, 10, 14, 0, 0, [], none, [1011]),
  (10, .iload_n 1, 1, 0, 0, 0, 0, [], none, []),
  (11, .ireturn, 1, 0, 0, 0, 0, [], none, [])]
theorem k_Mo_wipe : zOK m_Mo_wipe P_Mo_wipe := (by decide +kernel : P_Mo_wipe.all (zchk m_Mo_wipe.1.cls m_Mo_wipe.2.1) = true)

def P_Mo_letter : List zEn := [
  (0, .aload_n 0, 1, 0, 0, 0, 0, [], none, []),
  (1, .getfield 189, 3, 10, 28, 0, 0, [], none, [1025]),
  (4, .aload_n 0, 1, 0, 0, 0, 0, [], none, []),
  (5, .getfield 186, 3, 10, 14, 0, 0, [], none, [1011]),
  (8, .if_icmp .ge 19, 3, 27, 0, 0, 0, [], none, []),
  (11, .aload_n 0, 1, 0, 0, 0, 0, [], none, []),
  (12, .getfield 44, 3, 10, 13, 0, 0, [], none, [1010]),
  (15, .aload_n 0, 1, 0, 0, 0, 0, [], none, []),
  (16, .getfield 189, 3, 10, 28, 0, 0, [], none, [1025]),
  (19, .baload, 1, 0, 0, 0, 0, [], none, []),
  (20, .sipush 255, 3, 0, 0, 255, 0, [], none, []),
  (23, .iand, 1, 0, 0, 0, 0, [], none, []),
  (24, .goto 4, 3, 28, 0, 0, 0, [], none, []),
  (27, .iconst (-1), 1, 0, 0, -1, 0, [], none, []),
  (28, .ireturn, 1, 0, 0, 0, 0, [], none, [])]
theorem k_Mo_letter : zOK m_Mo_letter P_Mo_letter := (by decide +kernel : P_Mo_letter.all (zchk m_Mo_letter.1.cls m_Mo_letter.2.1) = true)

def P_Mo_expect : List zEn := [
  (0, .iload_n 1, 1, 0, 0, 0, 0, [], none, []),
  (1, .iconst 1, 1, 0, 0, 1, 0, [], none, []),
  (2, .isub, 1, 0, 0, 0, 0, [], none, []),
  (3, .istore_n 3, 1, 0, 0, 0, 0, [], none, []),
  (4, .iload_n 3, 1, 0, 0, 0, 0, [], none, []),
  (5, .ifCond .lt 54, 3, 59, 0, 0, 0, [], none, []),
  (8, .aload_n 0, 1, 0, 0, 0, 0, [], none, []),
  (9, .getfield 192, 3, 10, 29, 0, 0, [], none, [1026]),
  (12, .ifCond .ge 47, 3, 59, 0, 0, 0, [], none, []),
  (15, .aload_n 0, 1, 0, 0, 0, 0, [], none, []),
  (16, .invokevirtual 195, 3, 10, 0, 0, 0, [], some m_Mo_letter, [1234, 1236, 40, 76, 1237]),
  (19, .iload_n 2, 1, 0, 0, 0, 0, [], none, []),
  (20, .bipush 8, 2, 0, 0, 8, 0, [], none, []),
  (22, .iload_n 3, 1, 0, 0, 0, 0, [], none, []),
  (23, .imul, 1, 0, 0, 0, 0, [], none, []),
  (24, .ishr, 1, 0, 0, 0, 0, [], none, []),
  (25, .sipush 255, 3, 0, 0, 255, 0, [], none, []),
  (28, .iand, 1, 0, 0, 0, 0, [], none, []),
  (29, .if_icmp .eq 14, 3, 43, 0, 0, 0, [], none, []),
  (32, .aload_n 0, 1, 0, 0, 0, 0, [], none, []),
  (33, .aload_n 0, 1, 0, 0, 0, 0, [], none, []),
  (34, .getfield 189, 3, 10, 28, 0, 0, [], none, [1025]),
  (37, .putfield 192, 3, 10, 29, 0, 0, [], none, [1026]),
  (40, .goto 13, 3, 53, 0, 0, 0, [], none, []),
  (43, .aload_n 0, 1, 0, 0, 0, 0, [], none, []),
  (44, .dup, 1, 0, 0, 0, 0, [], none, []),
  (45, .getfield 189, 3, 10, 28, 0, 0, [], none, [1025]),
  (48, .iconst 1, 1, 0, 0, 1, 0, [], none, []),
  (49, .iadd, 1, 0, 0, 0, 0, [], none, []),
  (50, .putfield 189, 3, 10, 28, 0, 0, [], none, [1025]),
  (53, .iinc 3 (-1), 3, 0, 0, -1, 0, [], none, []),
  (56, .goto (-52), 3, 4, 0, 0, 0, [], none, []),
  (59, .return_, 1, 0, 0, 0, 0, [], none, [])]
theorem k_Mo_expect : zOK m_Mo_expect P_Mo_expect := (by decide +kernel : P_Mo_expect.all (zchk m_Mo_expect.1.cls m_Mo_expect.2.1) = true)

def P_Mo_word : List zEn := [
  (0, .aload_n 0, 1, 0, 0, 0, 0, [], none, []),
  (1, .getfield 189, 3, 10, 28, 0, 0, [], none, [1025]),
  (4, .istore_n 2, 1, 0, 0, 0, 0, [], none, []),
  (5, .iconst 0, 1, 0, 0, 0, 0, [], none, []),
  (6, .istore_n 3, 1, 0, 0, 0, 0, [], none, []),
  (7, .iconst (-1), 1, 0, 0, -1, 0, [], none, []),
  (8, .istore 4, 2, 0, 0, 0, 0, [], none, []),
  (10, .iconst 0, 1, 0, 0, 0, 0, [], none, []),
  (11, .istore 5, 2, 0, 0, 0, 0, [], none, []),
  (13, .iload 5, 2, 0, 0, 0, 0, [], none, []),
  (15, .iload_n 1, 1, 0, 0, 0, 0, [], none, []),
  (16, .if_icmp .ge 86, 3, 102, 0, 0, 0, [], none, []),
  (19, .iconst 0, 1, 0, 0, 0, 0, [], none, []),
  (20, .istore 6, 2, 0, 0, 0, 0, [], none, []),
  (22, .iload 6, 2, 0, 0, 0, 0, [], none, []),
  (24, .aload_n 0, 1, 0, 0, 0, 0, [], none, []),
  (25, .getfield 91, 3, 10, 32, 0, 0, [], none, [1029]),
  (28, .iload 5, 2, 0, 0, 0, 0, [], none, []),
  (30, .iaload, 1, 0, 0, 0, 0, [], none, []),
  (31, .if_icmp .ge 51, 3, 82, 0, 0, 0, [], none, []),
  (34, .iload_n 2, 1, 0, 0, 0, 0, [], none, []),
  (35, .iload 6, 2, 0, 0, 0, 0, [], none, []),
  (37, .iadd, 1, 0, 0, 0, 0, [], none, []),
  (38, .aload_n 0, 1, 0, 0, 0, 0, [], none, []),
  (39, .getfield 186, 3, 10, 14, 0, 0, [], none, [1011]),
  (42, .if_icmp .ge 40, 3, 82, 0, 0, 0, [], none, []),
  (45, .aload_n 0, 1, 0, 0, 0, 0, [], none, []),
  (46, .getfield 44, 3, 10, 13, 0, 0, [], none, [1010]),
  (49, .iload_n 2, 1, 0, 0, 0, 0, [], none, []),
  (50, .iload 6, 2, 0, 0, 0, 0, [], none, []),
  (52, .iadd, 1, 0, 0, 0, 0, [], none, []),
  (53, .baload, 1, 0, 0, 0, 0, [], none, []),
  (54, .sipush 255, 3, 0, 0, 255, 0, [], none, []),
  (57, .iand, 1, 0, 0, 0, 0, [], none, []),
  (58, .aload_n 0, 1, 0, 0, 0, 0, [], none, []),
  (59, .getfield 84, 3, 10, 30, 0, 0, [], none, [1027]),
  (62, .aload_n 0, 1, 0, 0, 0, 0, [], none, []),
  (63, .getfield 88, 3, 10, 31, 0, 0, [], none, [1028]),
  (66, .iload 5, 2, 0, 0, 0, 0, [], none, []),
  (68, .iaload, 1, 0, 0, 0, 0, [], none, []),
  (69, .iload 6, 2, 0, 0, 0, 0, [], none, []),
  (71, .iadd, 1, 0, 0, 0, 0, [], none, []),
  (72, .caload, 1, 0, 0, 0, 0, [], none, []),
  (73, .if_icmp .ne 9, 3, 82, 0, 0, 0, [], none, []),
  (76, .iinc 6 1, 3, 0, 0, 1, 0, [], none, []),
  (79, .goto (-57), 3, 22, 0, 0, 0, [], none, []),
  (82, .iload 6, 2, 0, 0, 0, 0, [], none, []),
  (84, .iload 4, 2, 0, 0, 0, 0, [], none, []),
  (86, .if_icmp .le 10, 3, 96, 0, 0, 0, [], none, []),
  (89, .iload 6, 2, 0, 0, 0, 0, [], none, []),
  (91, .istore 4, 2, 0, 0, 0, 0, [], none, []),
  (93, .iload 5, 2, 0, 0, 0, 0, [], none, []),
  (95, .istore_n 3, 1, 0, 0, 0, 0, [], none, []),
  (96, .iinc 5 1, 3, 0, 0, 1, 0, [], none, []),
  (99, .goto (-86), 3, 13, 0, 0, 0, [], none, []),
  (102, .aload_n 0, 1, 0, 0, 0, 0, [], none, []),
  (103, .iload_n 2, 1, 0, 0, 0, 0, [], none, []),
  (104, .iload 4, 2, 0, 0, 0, 0, [], none, []),
  (106, .iadd, 1, 0, 0, 0, 0, [], none, []),
  (107, .putfield 189, 3, 10, 28, 0, 0, [], none, [1025]),
  (110, .iload 4, 2, 0, 0, 0, 0, [], none, []),
  (112, .aload_n 0, 1, 0, 0, 0, 0, [], none, []),
  (113, .getfield 91, 3, 10, 32, 0, 0, [], none, [1029]),
  (116, .iload_n 3, 1, 0, 0, 0, 0, [], none, []),
  (117, .iaload, 1, 0, 0, 0, 0, [], none, []),
  (118, .if_icmp .ge 11, 3, 129, 0, 0, 0, [], none, []),
  (121, .aload_n 0, 1, 0, 0, 0, 0, [], none, []),
  (122, .aload_n 0, 1, 0, 0, 0, 0, [], none, []),
  (123, .getfield 189, 3, 10, 28, 0, 0, [], none, [1025]),
  (126, .putfield 192, 3, 10, 29, 0, 0, [], none, [1026]),
  (129, .iload_n 3, 1, 0, 0, 0, 0, [], none, []),
  (130, .ireturn, 1, 0, 0, 0, 0, [], none, [])]
theorem k_Mo_word : zOK m_Mo_word P_Mo_word := (by decide +kernel : P_Mo_word.all (zchk m_Mo_word.1.cls m_Mo_word.2.1) = true)

def P_Mo_oneOf : List zEn := [
  (0, .iconst 0, 1, 0, 0, 0, 0, [], none, []),
  (1, .istore_n 3, 1, 0, 0, 0, 0, [], none, []),
  (2, .iconst 0, 1, 0, 0, 0, 0, [], none, []),
  (3, .istore 4, 2, 0, 0, 0, 0, [], none, []),
  (5, .iconst 0, 1, 0, 0, 0, 0, [], none, []),
  (6, .istore 5, 2, 0, 0, 0, 0, [], none, []),
  (8, .iload 5, 2, 0, 0, 0, 0, [], none, []),
  (10, .iload_n 1, 1, 0, 0, 0, 0, [], none, []),
  (11, .if_icmp .ge 37, 3, 48, 0, 0, 0, [], none, []),
  (14, .aload_n 0, 1, 0, 0, 0, 0, [], none, []),
  (15, .invokevirtual 195, 3, 10, 0, 0, 0, [], some m_Mo_letter, [1234, 1236, 40, 76, 1237]),
  (18, .iload_n 2, 1, 0, 0, 0, 0, [], none, []),
  (19, .bipush 8, 2, 0, 0, 8, 0, [], none, []),
  (21, .iload_n 1, 1, 0, 0, 0, 0, [], none, []),
  (22, .iconst 1, 1, 0, 0, 1, 0, [], none, []),
  (23, .isub, 1, 0, 0, 0, 0, [], none, []),
  (24, .iload 5, 2, 0, 0, 0, 0, [], none, []),
  (26, .isub, 1, 0, 0, 0, 0, [], none, []),
  (27, .imul, 1, 0, 0, 0, 0, [], none, []),
  (28, .ishr, 1, 0, 0, 0, 0, [], none, []),
  (29, .sipush 255, 3, 0, 0, 255, 0, [], none, []),
  (32, .iand, 1, 0, 0, 0, 0, [], none, []),
  (33, .if_icmp .ne 9, 3, 42, 0, 0, 0, [], none, []),
  (36, .iconst 1, 1, 0, 0, 1, 0, [], none, []),
  (37, .istore 4, 2, 0, 0, 0, 0, [], none, []),
  (39, .iload 5, 2, 0, 0, 0, 0, [], none, []),
  (41, .istore_n 3, 1, 0, 0, 0, 0, [], none, []),
  (42, .iinc 5 1, 3, 0, 0, 1, 0, [], none, []),
  (45, .goto (-37), 3, 8, 0, 0, 0, [], none, []),
  (48, .iload 4, 2, 0, 0, 0, 0, [], none, []),
  (50, .ifCond .ne 14, 3, 64, 0, 0, 0, [], none, []),
  (53, .aload_n 0, 1, 0, 0, 0, 0, [], none, []),
  (54, .aload_n 0, 1, 0, 0, 0, 0, [], none, []),
  (55, .getfield 189, 3, 10, 28, 0, 0, [], none, [1025]),
  (58, .putfield 192, 3, 10, 29, 0, 0, [], none, [1026]),
  (61, .goto 13, 3, 74, 0, 0, 0, [], none, []),
  (64, .aload_n 0, 1, 0, 0, 0, 0, [], none, []),
  (65, .dup, 1, 0, 0, 0, 0, [], none, []),
  (66, .getfield 189, 3, 10, 28, 0, 0, [], none, [1025]),
  (69, .iconst 1, 1, 0, 0, 1, 0, [], none, []),
  (70, .iadd, 1, 0, 0, 0, 0, [], none, []),
  (71, .putfield 189, 3, 10, 28, 0, 0, [], none, [1025]),
  (74, .iload_n 3, 1, 0, 0, 0, 0, [], none, []),
  (75, .ireturn, 1, 0, 0, 0, 0, [], none, [])]
theorem k_Mo_oneOf : zOK m_Mo_oneOf P_Mo_oneOf := (by decide +kernel : P_Mo_oneOf.all (zchk m_Mo_oneOf.1.cls m_Mo_oneOf.2.1) = true)

def P_Mo_isDigit : List zEn := [
  (0, .iload_n 0, 1, 0, 0, 0, 0, [], none, []),
  (1, .bipush 48, 2, 0, 0, 48, 0, [], none, []),
  (3, .if_icmp .lt 13, 3, 16, 0, 0, 0, [], none, []),
  (6, .iload_n 0, 1, 0, 0, 0, 0, [], none, []),
  (7, .bipush 57, 2, 0, 0, 57, 0, [], none, []),
  (9, .if_icmp .gt 7, 3, 16, 0, 0, 0, [], none, []),
  (12, .iconst 1, 1, 0, 0, 1, 0, [], none, []),
  (13, .goto 4, 3, 17, 0, 0, 0, [], none, []),
  (16, .iconst 0, 1, 0, 0, 0, 0, [], none, []),
  (17, .ireturn, 1, 0, 0, 0, 0, [], none, [])]
theorem k_Mo_isDigit : zOK m_Mo_isDigit P_Mo_isDigit := (by decide +kernel : P_Mo_isDigit.all (zchk m_Mo_isDigit.1.cls m_Mo_isDigit.2.1) = true)

def P_Mo_readTest : List zEn := [
  (0, .aload_n 0, 1, 0, 0, 0, 0, [], none, []),
  (1, .getfield 69, 3, 10, 23, 0, 0, [], none, [1020]),
  (4, .iload_n 1, 1, 0, 0, 0, 0, [], none, []),
  (5, .aload_n 0, 1, 0, 0, 0, 0, [], none, []),
  (6, .invokevirtual 195, 3, 10, 0, 0, 0, [], some m_Mo_letter, [1234, 1236, 40, 76, 1237]),
  (9, .bipush 110, 2, 0, 0, 110, 0, [], none, []),
  (11, .if_icmp .ne 7, 3, 18, 0, 0, 0, [], none, []),
  (14, .iconst 1, 1, 0, 0, 1, 0, [], none, []),
  (15, .goto 4, 3, 19, 0, 0, 0, [], none, []),
  (18, .iconst 0, 1, 0, 0, 0, 0, [], none, []),
  (19, .bastore, 1, 0, 0, 0, 0, [], none, []),
  (20, .aload_n 0, 1, 0, 0, 0, 0, [], none, []),
  (21, .getfield 69, 3, 10, 23, 0, 0, [], none, [1020]),
  (24, .iload_n 1, 1, 0, 0, 0, 0, [], none, []),
  (25, .baload, 1, 0, 0, 0, 0, [], none, []),
  (26, .ifCond .eq 10, 3, 36, 0, 0, 0, [], none, []),
  (29, .aload_n 0, 1, 0, 0, 0, 0, [], none, []),
  (30, .iconst 4, 1, 0, 0, 4, 0, [], none, []),
  (31, .ldc 199, 2, 0, 0, 1852797984, 0, [], none, [1255]),
  (33, .invokevirtual 200, 3, 10, 2, 0, 0, [], some m_Mo_expect, [1230, 1232, 39, 76, 1233]),
  (36, .aload_n 0, 1, 0, 0, 0, 0, [], none, []),
  (37, .getfield 192, 3, 10, 29, 0, 0, [], none, [1026]),
  (40, .ifCond .ge 26, 3, 66, 0, 0, 0, [], none, []),
  (43, .aload_n 0, 1, 0, 0, 0, 0, [], none, []),
  (44, .getfield 72, 3, 10, 24, 0, 0, [], none, [1021]),
  (47, .iload_n 1, 1, 0, 0, 0, 0, [], none, []),
  (48, .aload_n 0, 1, 0, 0, 0, 0, [], none, []),
  (49, .iconst 2, 1, 0, 0, 2, 0, [], none, []),
  (50, .sipush 24930, 3, 0, 0, 24930, 0, [], none, []),
  (53, .invokevirtual 204, 3, 10, 2, 0, 0, [], some m_Mo_oneOf, [1256, 1258, 44, 76, 1259]),
  (56, .iconst 1, 1, 0, 0, 1, 0, [], none, []),
  (57, .if_icmp .ne 7, 3, 64, 0, 0, 0, [], none, []),
  (60, .iconst 1, 1, 0, 0, 1, 0, [], none, []),
  (61, .goto 4, 3, 65, 0, 0, 0, [], none, []),
  (64, .iconst 0, 1, 0, 0, 0, 0, [], none, []),
  (65, .bastore, 1, 0, 0, 0, 0, [], none, []),
  (66, .aload_n 0, 1, 0, 0, 0, 0, [], none, []),
  (67, .iconst 1, 1, 0, 0, 1, 0, [], none, []),
  (68, .bipush 46, 2, 0, 0, 46, 0, [], none, []),
  (70, .invokevirtual 200, 3, 10, 2, 0, 0, [], some m_Mo_expect, [1230, 1232, 39, 76, 1233]),
  (73, .aload_n 0, 1, 0, 0, 0, 0, [], none, []),
  (74, .getfield 192, 3, 10, 29, 0, 0, [], none, [1026]),
  (77, .ifCond .ge 15, 3, 92, 0, 0, 0, [], none, []),
  (80, .aload_n 0, 1, 0, 0, 0, 0, [], none, []),
  (81, .getfield 75, 3, 10, 25, 0, 0, [], none, [1022]),
  (84, .iload_n 1, 1, 0, 0, 0, 0, [], none, []),
  (85, .aload_n 0, 1, 0, 0, 0, 0, [], none, []),
  (86, .bipush 7, 2, 0, 0, 7, 0, [], none, []),
  (88, .invokevirtual 207, 3, 10, 1, 0, 0, [], some m_Mo_word, [1241, 1243, 41, 76, 1244]),
  (91, .iastore, 1, 0, 0, 0, 0, [], none, []),
  (92, .aload_n 0, 1, 0, 0, 0, 0, [], none, []),
  (93, .getfield 192, 3, 10, 29, 0, 0, [], none, [1026]),
  (96, .ifCond .ge 16, 3, 112, 0, 0, 0, [], none, []),
  (99, .aload_n 0, 1, 0, 0, 0, 0, [], none, []),
  (100, .getfield 78, 3, 10, 26, 0, 0, [], none, [1023]),
  (103, .iload_n 1, 1, 0, 0, 0, 0, [], none, []),
  (104, .aload_n 0, 1, 0, 0, 0, 0, [], none, []),
  (105, .iconst 3, 1, 0, 0, 3, 0, [], none, []),
  (106, .ldc 210, 2, 0, 0, 4013118, 0, [], none, [1260]),
  (108, .invokevirtual 204, 3, 10, 2, 0, 0, [], some m_Mo_oneOf, [1256, 1258, 44, 76, 1259]),
  (111, .iastore, 1, 0, 0, 0, 0, [], none, []),
  (112, .aload_n 0, 1, 0, 0, 0, 0, [], none, []),
  (113, .getfield 192, 3, 10, 29, 0, 0, [], none, [1026]),
  (116, .ifCond .ge 21, 3, 137, 0, 0, 0, [], none, []),
  (119, .aload_n 0, 1, 0, 0, 0, 0, [], none, []),
  (120, .invokevirtual 195, 3, 10, 0, 0, 0, [], some m_Mo_letter, [1234, 1236, 40, 76, 1237]),
  (123, .invokestatic 211, 3, 0, 1, 0, 0, [], some m_Mo_isDigit, [1238, 1239, 76, 1240]),
  (126, .ifCond .ne 11, 3, 137, 0, 0, 0, [], none, []),
  (129, .aload_n 0, 1, 0, 0, 0, 0, [], none, []),
  (130, .aload_n 0, 1, 0, 0, 0, 0, [], none, []),
  (131, .getfield 189, 3, 10, 28, 0, 0, [], none, [1025]),
  (134, .putfield 192, 3, 10, 29, 0, 0, [], none, [1026]),
  (137, .iconst 0, 1, 0, 0, 0, 0, [], none, []),
  (138, .istore_n 2, 1, 0, 0, 0, 0, [], none, []),
  (139, .iconst 0, 1, 0, 0, 0, 0, [], none, []),
  (140, .istore_n 3, 1, 0, 0, 0, 0, [], none, []),
  (141, .iload_n 3, 1, 0, 0, 0, 0, [], none, []),
  (142, .bipush 8, 2, 0, 0, 8, 0, [], none, []),
  (144, .if_icmp .ge 49, 3, 193, 0, 0, 0, [], none, []),
  (147, .aload_n 0, 1, 0, 0, 0, 0, [], none, []),
  (148, .getfield 192, 3, 10, 29, 0, 0, [], none, [1026]),
  (151, .ifCond .ge 42, 3, 193, 0, 0, 0, [], none, []),
  (154, .aload_n 0, 1, 0, 0, 0, 0, [], none, []),
  (155, .invokevirtual 195, 3, 10, 0, 0, 0, [], some m_Mo_letter, [1234, 1236, 40, 76, 1237]),
  (158, .invokestatic 211, 3, 0, 1, 0, 0, [], some m_Mo_isDigit, [1238, 1239, 76, 1240]),
  (161, .ifCond .eq 32, 3, 193, 0, 0, 0, [], none, []),
  (164, .bipush 10, 2, 0, 0, 10, 0, [], none, []),
  (166, .iload_n 2, 1, 0, 0, 0, 0, [], none, []),
  (167, .imul, 1, 0, 0, 0, 0, [], none, []),
  (168, .aload_n 0, 1, 0, 0, 0, 0, [], none, []),
  (169, .invokevirtual 195, 3, 10, 0, 0, 0, [], some m_Mo_letter, [1234, 1236, 40, 76, 1237]),
  (172, .iadd, 1, 0, 0, 0, 0, [], none, []),
  (173, .bipush 48, 2, 0, 0, 48, 0, [], none, []),
  (175, .isub, 1, 0, 0, 0, 0, [], none, []),
  (176, .istore_n 2, 1, 0, 0, 0, 0, [], none, []),
  (177, .aload_n 0, 1, 0, 0, 0, 0, [], none, []),
  (178, .dup, 1, 0, 0, 0, 0, [], none, []),
  (179, .getfield 189, 3, 10, 28, 0, 0, [], none, [1025]),
  (182, .iconst 1, 1, 0, 0, 1, 0, [], none, []),
  (183, .iadd, 1, 0, 0, 0, 0, [], none, []),
  (184, .putfield 189, 3, 10, 28, 0, 0, [], none, [1025]),
  (187, .iinc 3 1, 3, 0, 0, 1, 0, [], none, []),
  (190, .goto (-49), 3, 141, 0, 0, 0, [], none, []),
  (193, .aload_n 0, 1, 0, 0, 0, 0, [], none, []),
  (194, .getfield 81, 3, 10, 27, 0, 0, [], none, [1024]),
  (197, .iload_n 1, 1, 0, 0, 0, 0, [], none, []),
  (198, .iload_n 2, 1, 0, 0, 0, 0, [], none, []),
  (199, .iastore, 1, 0, 0, 0, 0, [], none, []),
  (200, .return_, 1, 0, 0, 0, 0, [], none, [])]
theorem k_Mo_readTest : zOK m_Mo_readTest P_Mo_readTest := (by decide +kernel : P_Mo_readTest.all (zchk m_Mo_readTest.1.cls m_Mo_readTest.2.1) = true)

def P_Mo_readTests : List zEn := [
  (0, .aload_n 0, 1, 0, 0, 0, 0, [], none, []),
  (1, .iconst 4, 1, 0, 0, 4, 0, [], none, []),
  (2, .ldc 214, 2, 0, 0, 543778336, 0, [], none, [1250]),
  (4, .invokevirtual 200, 3, 10, 2, 0, 0, [], some m_Mo_expect, [1230, 1232, 39, 76, 1233]),
  (7, .aload_n 0, 1, 0, 0, 0, 0, [], none, []),
  (8, .getfield 192, 3, 10, 29, 0, 0, [], none, [1026]),
  (11, .ifCond .ge 7, 3, 18, 0, 0, 0, [], none, []),
  (14, .iconst 1, 1, 0, 0, 1, 0, [], none, []),
  (15, .goto 4, 3, 19, 0, 0, 0, [], none, []),
  (18, .iconst 0, 1, 0, 0, 0, 0, [], none, []),
  (19, .istore_n 2, 1, 0, 0, 0, 0, [], none, []),
  (20, .iload_n 2, 1, 0, 0, 0, 0, [], none, []),
  (21, .ifCond .eq 189, 3, 210, 0, 0, 0, [], none, []),
  (24, .aload_n 0, 1, 0, 0, 0, 0, [], none, []),
  (25, .iconst 4, 1, 0, 0, 4, 0, [], none, []),
  (26, .iload_n 1, 1, 0, 0, 0, 0, [], none, []),
  (27, .imul, 1, 0, 0, 0, 0, [], none, []),
  (28, .aload_n 0, 1, 0, 0, 0, 0, [], none, []),
  (29, .getfield 66, 3, 10, 22, 0, 0, [], none, [1019]),
  (32, .iload_n 1, 1, 0, 0, 0, 0, [], none, []),
  (33, .iaload, 1, 0, 0, 0, 0, [], none, []),
  (34, .iadd, 1, 0, 0, 0, 0, [], none, []),
  (35, .invokevirtual 215, 3, 10, 1, 0, 0, [], some m_Mo_readTest, [1251, 1253, 43, 76, 1254]),
  (38, .aload_n 0, 1, 0, 0, 0, 0, [], none, []),
  (39, .getfield 66, 3, 10, 22, 0, 0, [], none, [1019]),
  (42, .iload_n 1, 1, 0, 0, 0, 0, [], none, []),
  (43, .dup2, 1, 0, 0, 0, 0, [], none, []),
  (44, .iaload, 1, 0, 0, 0, 0, [], none, []),
  (45, .iconst 1, 1, 0, 0, 1, 0, [], none, []),
  (46, .iadd, 1, 0, 0, 0, 0, [], none, []),
  (47, .iastore, 1, 0, 0, 0, 0, [], none, []),
  (48, .aload_n 0, 1, 0, 0, 0, 0, [], none, []),
  (49, .getfield 192, 3, 10, 29, 0, 0, [], none, [1026]),
  (52, .ifCond .ge 18, 3, 70, 0, 0, 0, [], none, []),
  (55, .aload_n 0, 1, 0, 0, 0, 0, [], none, []),
  (56, .getfield 189, 3, 10, 28, 0, 0, [], none, [1025]),
  (59, .aload_n 0, 1, 0, 0, 0, 0, [], none, []),
  (60, .getfield 186, 3, 10, 14, 0, 0, [], none, [1011]),
  (63, .if_icmp .ge 7, 3, 70, 0, 0, 0, [], none, []),
  (66, .iconst 1, 1, 0, 0, 1, 0, [], none, []),
  (67, .goto 4, 3, 71, 0, 0, 0, [], none, []),
  (70, .iconst 0, 1, 0, 0, 0, 0, [], none, []),
  (71, .istore_n 2, 1, 0, 0, 0, 0, [], none, []),
  (72, .iload_n 2, 1, 0, 0, 0, 0, [], none, []),
  (73, .ifCond .eq 21, 3, 94, 0, 0, 0, [], none, []),
  (76, .aload_n 0, 1, 0, 0, 0, 0, [], none, []),
  (77, .getfield 66, 3, 10, 22, 0, 0, [], none, [1019]),
  (80, .iload_n 1, 1, 0, 0, 0, 0, [], none, []),
  (81, .iaload, 1, 0, 0, 0, 0, [], none, []),
  (82, .iconst 4, 1, 0, 0, 4, 0, [], none, []),
  (83, .if_icmp .ne 11, 3, 94, 0, 0, 0, [], none, []),
  (86, .aload_n 0, 1, 0, 0, 0, 0, [], none, []),
  (87, .aload_n 0, 1, 0, 0, 0, 0, [], none, []),
  (88, .getfield 189, 3, 10, 28, 0, 0, [], none, [1025]),
  (91, .putfield 192, 3, 10, 29, 0, 0, [], none, [1026]),
  (94, .iload_n 2, 1, 0, 0, 0, 0, [], none, []),
  (95, .ifCond .eq 17, 3, 112, 0, 0, 0, [], none, []),
  (98, .aload_n 0, 1, 0, 0, 0, 0, [], none, []),
  (99, .getfield 192, 3, 10, 29, 0, 0, [], none, [1026]),
  (102, .ifCond .ge 10, 3, 112, 0, 0, 0, [], none, []),
  (105, .aload_n 0, 1, 0, 0, 0, 0, [], none, []),
  (106, .iconst 1, 1, 0, 0, 1, 0, [], none, []),
  (107, .bipush 32, 2, 0, 0, 32, 0, [], none, []),
  (109, .invokevirtual 200, 3, 10, 2, 0, 0, [], some m_Mo_expect, [1230, 1232, 39, 76, 1233]),
  (112, .iload_n 2, 1, 0, 0, 0, 0, [], none, []),
  (113, .ifCond .eq 40, 3, 153, 0, 0, 0, [], none, []),
  (116, .aload_n 0, 1, 0, 0, 0, 0, [], none, []),
  (117, .getfield 192, 3, 10, 29, 0, 0, [], none, [1026]),
  (120, .ifCond .ge 33, 3, 153, 0, 0, 0, [], none, []),
  (123, .aload_n 0, 1, 0, 0, 0, 0, [], none, []),
  (124, .getfield 66, 3, 10, 22, 0, 0, [], none, [1019]),
  (127, .iload_n 1, 1, 0, 0, 0, 0, [], none, []),
  (128, .iaload, 1, 0, 0, 0, 0, [], none, []),
  (129, .iconst 1, 1, 0, 0, 1, 0, [], none, []),
  (130, .if_icmp .ne 23, 3, 153, 0, 0, 0, [], none, []),
  (133, .aload_n 0, 1, 0, 0, 0, 0, [], none, []),
  (134, .getfield 57, 3, 10, 19, 0, 0, [], none, [1016]),
  (137, .iload_n 1, 1, 0, 0, 0, 0, [], none, []),
  (138, .aload_n 0, 1, 0, 0, 0, 0, [], none, []),
  (139, .invokevirtual 195, 3, 10, 0, 0, 0, [], some m_Mo_letter, [1234, 1236, 40, 76, 1237]),
  (142, .bipush 111, 2, 0, 0, 111, 0, [], none, []),
  (144, .if_icmp .ne 7, 3, 151, 0, 0, 0, [], none, []),
  (147, .iconst 1, 1, 0, 0, 1, 0, [], none, []),
  (148, .goto 4, 3, 152, 0, 0, 0, [], none, []),
  (151, .iconst 0, 1, 0, 0, 0, 0, [], none, []),
  (152, .bastore, 1, 0, 0, 0, 0, [], none, []),
  (153, .iload_n 2, 1, 0, 0, 0, 0, [], none, []),
  (154, .ifCond .eq 36, 3, 190, 0, 0, 0, [], none, []),
  (157, .aload_n 0, 1, 0, 0, 0, 0, [], none, []),
  (158, .getfield 192, 3, 10, 29, 0, 0, [], none, [1026]),
  (161, .ifCond .ge 29, 3, 190, 0, 0, 0, [], none, []),
  (164, .aload_n 0, 1, 0, 0, 0, 0, [], none, []),
  (165, .getfield 57, 3, 10, 19, 0, 0, [], none, [1016]),
  (168, .iload_n 1, 1, 0, 0, 0, 0, [], none, []),
  (169, .baload, 1, 0, 0, 0, 0, [], none, []),
  (170, .ifCond .eq 13, 3, 183, 0, 0, 0, [], none, []),
  (173, .aload_n 0, 1, 0, 0, 0, 0, [], none, []),
  (174, .iconst 3, 1, 0, 0, 3, 0, [], none, []),
  (175, .ldc 219, 2, 0, 0, 7303712, 0, [], none, [1261]),
  (177, .invokevirtual 200, 3, 10, 2, 0, 0, [], some m_Mo_expect, [1230, 1232, 39, 76, 1233]),
  (180, .goto 10, 3, 190, 0, 0, 0, [], none, []),
  (183, .aload_n 0, 1, 0, 0, 0, 0, [], none, []),
  (184, .iconst 4, 1, 0, 0, 4, 0, [], none, []),
  (185, .ldc 220, 2, 0, 0, 1634624544, 0, [], none, [1262]),
  (187, .invokevirtual 200, 3, 10, 2, 0, 0, [], some m_Mo_expect, [1230, 1232, 39, 76, 1233]),
  (190, .iload_n 2, 1, 0, 0, 0, 0, [], none, []),
  (191, .ifCond .eq 14, 3, 205, 0, 0, 0, [], none, []),
  (194, .aload_n 0, 1, 0, 0, 0, 0, [], none, []),
  (195, .getfield 192, 3, 10, 29, 0, 0, [], none, [1026]),
  (198, .ifCond .ge 7, 3, 205, 0, 0, 0, [], none, []),
  (201, .iconst 1, 1, 0, 0, 1, 0, [], none, []),
  (202, .goto 4, 3, 206, 0, 0, 0, [], none, []),
  (205, .iconst 0, 1, 0, 0, 0, 0, [], none, []),
  (206, .istore_n 2, 1, 0, 0, 0, 0, [], none, []),
  (207, .goto (-187), 3, 20, 0, 0, 0, [], none, []),
  (210, .return_, 1, 0, 0, 0, 0, [], none, [])]
theorem k_Mo_readTests : zOK m_Mo_readTests P_Mo_readTests := (by decide +kernel : P_Mo_readTests.all (zchk m_Mo_readTests.1.cls m_Mo_readTests.2.1) = true)

def P_Mo_read : List zEn := [
  (0, .aload_n 0, 1, 0, 0, 0, 0, [], none, []),
  (1, .iconst 0, 1, 0, 0, 0, 0, [], none, []),
  (2, .putfield 189, 3, 10, 28, 0, 0, [], none, [1025]),
  (5, .aload_n 0, 1, 0, 0, 0, 0, [], none, []),
  (6, .iconst (-1), 1, 0, 0, -1, 0, [], none, []),
  (7, .putfield 192, 3, 10, 29, 0, 0, [], none, [1026]),
  (10, .aload_n 0, 1, 0, 0, 0, 0, [], none, []),
  (11, .getfield 66, 3, 10, 22, 0, 0, [], none, [1019]),
  (14, .iload_n 1, 1, 0, 0, 0, 0, [], none, []),
  (15, .iconst 0, 1, 0, 0, 0, 0, [], none, []),
  (16, .iastore, 1, 0, 0, 0, 0, [], none, []),
  (17, .aload_n 0, 1, 0, 0, 0, 0, [], none, []),
  (18, .getfield 57, 3, 10, 19, 0, 0, [], none, [1016]),
  (21, .iload_n 1, 1, 0, 0, 0, 0, [], none, []),
  (22, .iconst 0, 1, 0, 0, 0, 0, [], none, []),
  (23, .bastore, 1, 0, 0, 0, 0, [], none, []),
  (24, .aload_n 0, 1, 0, 0, 0, 0, [], none, []),
  (25, .iconst 3, 1, 0, 0, 3, 0, [], none, []),
  (26, .ldc 221, 2, 0, 0, 7302688, 0, [], none, [1229]),
  (28, .invokevirtual 200, 3, 10, 2, 0, 0, [], some m_Mo_expect, [1230, 1232, 39, 76, 1233]),
  (31, .aload_n 0, 1, 0, 0, 0, 0, [], none, []),
  (32, .getfield 192, 3, 10, 29, 0, 0, [], none, [1026]),
  (35, .ifCond .ge 76, 3, 111, 0, 0, 0, [], none, []),
  (38, .aload_n 0, 1, 0, 0, 0, 0, [], none, []),
  (39, .getfield 48, 3, 10, 16, 0, 0, [], none, [1013]),
  (42, .iload_n 1, 1, 0, 0, 0, 0, [], none, []),
  (43, .aload_n 0, 1, 0, 0, 0, 0, [], none, []),
  (44, .invokevirtual 195, 3, 10, 0, 0, 0, [], some m_Mo_letter, [1234, 1236, 40, 76, 1237]),
  (47, .invokestatic 211, 3, 0, 1, 0, 0, [], some m_Mo_isDigit, [1238, 1239, 76, 1240]),
  (50, .ifCond .eq 13, 3, 63, 0, 0, 0, [], none, []),
  (53, .aload_n 0, 1, 0, 0, 0, 0, [], none, []),
  (54, .invokevirtual 195, 3, 10, 0, 0, 0, [], some m_Mo_letter, [1234, 1236, 40, 76, 1237]),
  (57, .bipush 48, 2, 0, 0, 48, 0, [], none, []),
  (59, .isub, 1, 0, 0, 0, 0, [], none, []),
  (60, .goto 5, 3, 65, 0, 0, 0, [], none, []),
  (63, .bipush 10, 2, 0, 0, 10, 0, [], none, []),
  (65, .iastore, 1, 0, 0, 0, 0, [], none, []),
  (66, .aload_n 0, 1, 0, 0, 0, 0, [], none, []),
  (67, .aload_n 0, 1, 0, 0, 0, 0, [], none, []),
  (68, .getfield 48, 3, 10, 16, 0, 0, [], none, [1013]),
  (71, .iload_n 1, 1, 0, 0, 0, 0, [], none, []),
  (72, .iaload, 1, 0, 0, 0, 0, [], none, []),
  (73, .bipush 10, 2, 0, 0, 10, 0, [], none, []),
  (75, .if_icmp .lt 12, 3, 87, 0, 0, 0, [], none, []),
  (78, .aload_n 0, 1, 0, 0, 0, 0, [], none, []),
  (79, .invokevirtual 195, 3, 10, 0, 0, 0, [], some m_Mo_letter, [1234, 1236, 40, 76, 1237]),
  (82, .bipush 42, 2, 0, 0, 42, 0, [], none, []),
  (84, .if_icmp .ne 10, 3, 94, 0, 0, 0, [], none, []),
  (87, .aload_n 0, 1, 0, 0, 0, 0, [], none, []),
  (88, .getfield 192, 3, 10, 29, 0, 0, [], none, [1026]),
  (91, .goto 7, 3, 98, 0, 0, 0, [], none, []),
  (94, .aload_n 0, 1, 0, 0, 0, 0, [], none, []),
  (95, .getfield 189, 3, 10, 28, 0, 0, [], none, [1025]),
  (98, .putfield 192, 3, 10, 29, 0, 0, [], none, [1026]),
  (101, .aload_n 0, 1, 0, 0, 0, 0, [], none, []),
  (102, .dup, 1, 0, 0, 0, 0, [], none, []),
  (103, .getfield 189, 3, 10, 28, 0, 0, [], none, [1025]),
  (106, .iconst 1, 1, 0, 0, 1, 0, [], none, []),
  (107, .iadd, 1, 0, 0, 0, 0, [], none, []),
  (108, .putfield 189, 3, 10, 28, 0, 0, [], none, [1025]),
  (111, .aload_n 0, 1, 0, 0, 0, 0, [], none, []),
  (112, .iconst 1, 1, 0, 0, 1, 0, [], none, []),
  (113, .bipush 32, 2, 0, 0, 32, 0, [], none, []),
  (115, .invokevirtual 200, 3, 10, 2, 0, 0, [], some m_Mo_expect, [1230, 1232, 39, 76, 1233]),
  (118, .aload_n 0, 1, 0, 0, 0, 0, [], none, []),
  (119, .getfield 192, 3, 10, 29, 0, 0, [], none, [1026]),
  (122, .ifCond .ge 14, 3, 136, 0, 0, 0, [], none, []),
  (125, .aload_n 0, 1, 0, 0, 0, 0, [], none, []),
  (126, .getfield 51, 3, 10, 17, 0, 0, [], none, [1014]),
  (129, .iload_n 1, 1, 0, 0, 0, 0, [], none, []),
  (130, .aload_n 0, 1, 0, 0, 0, 0, [], none, []),
  (131, .iconst 5, 1, 0, 0, 5, 0, [], none, []),
  (132, .invokevirtual 207, 3, 10, 1, 0, 0, [], some m_Mo_word, [1241, 1243, 41, 76, 1244]),
  (135, .iastore, 1, 0, 0, 0, 0, [], none, []),
  (136, .aload_n 0, 1, 0, 0, 0, 0, [], none, []),
  (137, .iconst 1, 1, 0, 0, 1, 0, [], none, []),
  (138, .bipush 32, 2, 0, 0, 32, 0, [], none, []),
  (140, .invokevirtual 200, 3, 10, 2, 0, 0, [], some m_Mo_expect, [1230, 1232, 39, 76, 1233]),
  (143, .aload_n 0, 1, 0, 0, 0, 0, [], none, []),
  (144, .getfield 192, 3, 10, 29, 0, 0, [], none, [1026]),
  (147, .ifCond .ge 50, 3, 197, 0, 0, 0, [], none, []),
  (150, .aload_n 0, 1, 0, 0, 0, 0, [], none, []),
  (151, .getfield 54, 3, 10, 18, 0, 0, [], none, [1015]),
  (154, .iload_n 1, 1, 0, 0, 0, 0, [], none, []),
  (155, .aload_n 0, 1, 0, 0, 0, 0, [], none, []),
  (156, .invokevirtual 195, 3, 10, 0, 0, 0, [], some m_Mo_letter, [1234, 1236, 40, 76, 1237]),
  (159, .bipush 117, 2, 0, 0, 117, 0, [], none, []),
  (161, .if_icmp .ne 7, 3, 168, 0, 0, 0, [], none, []),
  (164, .iconst 1, 1, 0, 0, 1, 0, [], none, []),
  (165, .goto 4, 3, 169, 0, 0, 0, [], none, []),
  (168, .iconst 0, 1, 0, 0, 0, 0, [], none, []),
  (169, .bastore, 1, 0, 0, 0, 0, [], none, []),
  (170, .aload_n 0, 1, 0, 0, 0, 0, [], none, []),
  (171, .getfield 54, 3, 10, 18, 0, 0, [], none, [1015]),
  (174, .iload_n 1, 1, 0, 0, 0, 0, [], none, []),
  (175, .baload, 1, 0, 0, 0, 0, [], none, []),
  (176, .ifCond .eq 14, 3, 190, 0, 0, 0, [], none, []),
  (179, .aload_n 0, 1, 0, 0, 0, 0, [], none, []),
  (180, .iconst 2, 1, 0, 0, 2, 0, [], none, []),
  (181, .sipush 30064, 3, 0, 0, 30064, 0, [], none, []),
  (184, .invokevirtual 200, 3, 10, 2, 0, 0, [], some m_Mo_expect, [1230, 1232, 39, 76, 1233]),
  (187, .goto 10, 3, 197, 0, 0, 0, [], none, []),
  (190, .aload_n 0, 1, 0, 0, 0, 0, [], none, []),
  (191, .iconst 4, 1, 0, 0, 4, 0, [], none, []),
  (192, .ldc 222, 2, 0, 0, 1685026670, 0, [], none, [1245]),
  (194, .invokevirtual 200, 3, 10, 2, 0, 0, [], some m_Mo_expect, [1230, 1232, 39, 76, 1233]),
  (197, .aload_n 0, 1, 0, 0, 0, 0, [], none, []),
  (198, .getfield 192, 3, 10, 29, 0, 0, [], none, [1026]),
  (201, .ifCond .ge 19, 3, 220, 0, 0, 0, [], none, []),
  (204, .aload_n 0, 1, 0, 0, 0, 0, [], none, []),
  (205, .getfield 189, 3, 10, 28, 0, 0, [], none, [1025]),
  (208, .aload_n 0, 1, 0, 0, 0, 0, [], none, []),
  (209, .getfield 186, 3, 10, 14, 0, 0, [], none, [1011]),
  (212, .if_icmp .ge 8, 3, 220, 0, 0, 0, [], none, []),
  (215, .aload_n 0, 1, 0, 0, 0, 0, [], none, []),
  (216, .iload_n 1, 1, 0, 0, 0, 0, [], none, []),
  (217, .invokevirtual 223, 3, 10, 1, 0, 0, [], some m_Mo_readTests, [1246, 1248, 42, 76, 1249]),
  (220, .return_, 1, 0, 0, 0, 0, [], none, [])]
theorem k_Mo_read : zOK m_Mo_read P_Mo_read := (by decide +kernel : P_Mo_read.all (zchk m_Mo_read.1.cls m_Mo_read.2.1) = true)

def P_Mo_rule : List zEn := [
  (0, .iload_n 1, 1, 0, 0, 0, 0, [], none, []),
  (1, .ifCond .lt 15, 3, 16, 0, 0, 0, [], none, []),
  (4, .iload_n 1, 1, 0, 0, 0, 0, [], none, []),
  (5, .iload_n 2, 1, 0, 0, 0, 0, [], none, []),
  (6, .if_icmp .ge 10, 3, 16, 0, 0, 0, [], none, []),
  (9, .iload_n 2, 1, 0, 0, 0, 0, [], none, []),
  (10, .sipush 10000, 3, 0, 0, 10000, 0, [], none, []),
  (13, .if_icmp .le 6, 3, 19, 0, 0, 0, [], none, []),
  (16, .bipush (-2), 2, 0, 0, -2, 0, [], none, []),
  (18, .ireturn, 1, 0, 0, 0, 0, [], none, []),
  (19, .aload_n 0, 1, 0, 0, 0, 0, [], none, []),
  (20, .getfield 226, 3, 10, 15, 0, 0, [], none, [1012]),
  (23, .bipush 16, 2, 0, 0, 16, 0, [], none, []),
  (25, .if_icmp .ne 6, 3, 31, 0, 0, 0, [], none, []),
  (28, .bipush (-4), 2, 0, 0, -4, 0, [], none, []),
  (30, .ireturn, 1, 0, 0, 0, 0, [], none, []),
  (31, .aload_n 0, 1, 0, 0, 0, 0, [], none, []),
  (32, .aload_n 0, 1, 0, 0, 0, 0, [], none, []),
  (33, .getfield 226, 3, 10, 15, 0, 0, [], none, [1012]),
  (36, .invokevirtual 229, 3, 10, 1, 0, 0, [], some m_Mo_read, [1225, 1227, 38, 76, 1228]),
  (39, .aload_n 0, 1, 0, 0, 0, 0, [], none, []),
  (40, .iconst 0, 1, 0, 0, 0, 0, [], none, []),
  (41, .putfield 186, 3, 10, 14, 0, 0, [], none, [1011]),
  (44, .aload_n 0, 1, 0, 0, 0, 0, [], none, []),
  (45, .getfield 192, 3, 10, 29, 0, 0, [], none, [1026]),
  (48, .ifCond .lt 11, 3, 59, 0, 0, 0, [], none, []),
  (51, .bipush (-10), 2, 0, 0, -10, 0, [], none, []),
  (53, .aload_n 0, 1, 0, 0, 0, 0, [], none, []),
  (54, .getfield 192, 3, 10, 29, 0, 0, [], none, [1026]),
  (57, .isub, 1, 0, 0, 0, 0, [], none, []),
  (58, .ireturn, 1, 0, 0, 0, 0, [], none, []),
  (59, .aload_n 0, 1, 0, 0, 0, 0, [], none, []),
  (60, .getfield 60, 3, 10, 20, 0, 0, [], none, [1017]),
  (63, .aload_n 0, 1, 0, 0, 0, 0, [], none, []),
  (64, .getfield 226, 3, 10, 15, 0, 0, [], none, [1012]),
  (67, .iload_n 1, 1, 0, 0, 0, 0, [], none, []),
  (68, .iastore, 1, 0, 0, 0, 0, [], none, []),
  (69, .aload_n 0, 1, 0, 0, 0, 0, [], none, []),
  (70, .getfield 63, 3, 10, 21, 0, 0, [], none, [1018]),
  (73, .aload_n 0, 1, 0, 0, 0, 0, [], none, []),
  (74, .getfield 226, 3, 10, 15, 0, 0, [], none, [1012]),
  (77, .iload_n 2, 1, 0, 0, 0, 0, [], none, []),
  (78, .iastore, 1, 0, 0, 0, 0, [], none, []),
  (79, .aload_n 0, 1, 0, 0, 0, 0, [], none, []),
  (80, .dup, 1, 0, 0, 0, 0, [], none, []),
  (81, .getfield 226, 3, 10, 15, 0, 0, [], none, [1012]),
  (84, .iconst 1, 1, 0, 0, 1, 0, [], none, []),
  (85, .iadd, 1, 0, 0, 0, 0, [], none, []),
  (86, .putfield 226, 3, 10, 15, 0, 0, [], none, [1012]),
  (89, .aload_n 0, 1, 0, 0, 0, 0, [], none, []),
  (90, .getfield 226, 3, 10, 15, 0, 0, [], none, [1012]),
  (93, .iconst 1, 1, 0, 0, 1, 0, [], none, []),
  (94, .isub, 1, 0, 0, 0, 0, [], none, []),
  (95, .ireturn, 1, 0, 0, 0, 0, [], none, [])]
theorem k_Mo_rule : zOK m_Mo_rule P_Mo_rule := (by decide +kernel : P_Mo_rule.all (zchk m_Mo_rule.1.cls m_Mo_rule.2.1) = true)

def P_Mo_ends : List zEn := [
  (0, .iload_n 1, 1, 0, 0, 0, 0, [], none, []),
  (1, .ifCond .lt 11, 3, 12, 0, 0, 0, [], none, []),
  (4, .iload_n 1, 1, 0, 0, 0, 0, [], none, []),
  (5, .aload_n 0, 1, 0, 0, 0, 0, [], none, []),
  (6, .getfield 226, 3, 10, 15, 0, 0, [], none, [1012]),
  (9, .if_icmp .lt 5, 3, 14, 0, 0, 0, [], none, []),
  (12, .iconst (-1), 1, 0, 0, -1, 0, [], none, []),
  (13, .ireturn, 1, 0, 0, 0, 0, [], none, []),
  (14, .iload_n 2, 1, 0, 0, 0, 0, [], none, []),
  (15, .aload_n 0, 1, 0, 0, 0, 0, [], none, []),
  (16, .getfield 60, 3, 10, 20, 0, 0, [], none, [1017]),
  (19, .iload_n 1, 1, 0, 0, 0, 0, [], none, []),
  (20, .iaload, 1, 0, 0, 0, 0, [], none, []),
  (21, .if_icmp .le 13, 3, 34, 0, 0, 0, [], none, []),
  (24, .iload_n 2, 1, 0, 0, 0, 0, [], none, []),
  (25, .aload_n 0, 1, 0, 0, 0, 0, [], none, []),
  (26, .getfield 63, 3, 10, 21, 0, 0, [], none, [1018]),
  (29, .iload_n 1, 1, 0, 0, 0, 0, [], none, []),
  (30, .iaload, 1, 0, 0, 0, 0, [], none, []),
  (31, .if_icmp .lt 6, 3, 37, 0, 0, 0, [], none, []),
  (34, .bipush (-2), 2, 0, 0, -2, 0, [], none, []),
  (36, .ireturn, 1, 0, 0, 0, 0, [], none, []),
  (37, .aload_n 0, 1, 0, 0, 0, 0, [], none, []),
  (38, .getfield 63, 3, 10, 21, 0, 0, [], none, [1018]),
  (41, .iload_n 1, 1, 0, 0, 0, 0, [], none, []),
  (42, .iaload, 1, 0, 0, 0, 0, [], none, []),
  (43, .istore_n 3, 1, 0, 0, 0, 0, [], none, []),
  (44, .aload_n 0, 1, 0, 0, 0, 0, [], none, []),
  (45, .getfield 63, 3, 10, 21, 0, 0, [], none, [1018]),
  (48, .iload_n 1, 1, 0, 0, 0, 0, [], none, []),
  (49, .iload_n 2, 1, 0, 0, 0, 0, [], none, []),
  (50, .iastore, 1, 0, 0, 0, 0, [], none, []),
  (51, .iload_n 3, 1, 0, 0, 0, 0, [], none, []),
  (52, .ireturn, 1, 0, 0, 0, 0, [], none, [])]
theorem k_Mo_ends : zOK m_Mo_ends P_Mo_ends := (by decide +kernel : P_Mo_ends.all (zchk m_Mo_ends.1.cls m_Mo_ends.2.1) = true)

def P_Mo_holds : List zEn := [
  (0, .aload_n 0, 1, 0, 0, 0, 0, [], none, []),
  (1, .aload_n 0, 1, 0, 0, 0, 0, [], none, []),
  (2, .getfield 72, 3, 10, 24, 0, 0, [], none, [1021]),
  (5, .iload_n 1, 1, 0, 0, 0, 0, [], none, []),
  (6, .baload, 1, 0, 0, 0, 0, [], none, []),
  (7, .ifCond .eq 7, 3, 14, 0, 0, 0, [], none, []),
  (10, .iload_n 3, 1, 0, 0, 0, 0, [], none, []),
  (11, .goto 4, 3, 15, 0, 0, 0, [], none, []),
  (14, .iload_n 2, 1, 0, 0, 0, 0, [], none, []),
  (15, .aload_n 0, 1, 0, 0, 0, 0, [], none, []),
  (16, .getfield 75, 3, 10, 25, 0, 0, [], none, [1022]),
  (19, .iload_n 1, 1, 0, 0, 0, 0, [], none, []),
  (20, .iaload, 1, 0, 0, 0, 0, [], none, []),
  (21, .invokevirtual 181, 3, 10, 2, 0, 0, [], some m_Mo_field, [1200, 1202, 36, 76, 1203]),
  (24, .istore 4, 2, 0, 0, 0, 0, [], none, []),
  (26, .aload_n 0, 1, 0, 0, 0, 0, [], none, []),
  (27, .getfield 81, 3, 10, 27, 0, 0, [], none, [1024]),
  (30, .iload_n 1, 1, 0, 0, 0, 0, [], none, []),
  (31, .iaload, 1, 0, 0, 0, 0, [], none, []),
  (32, .istore 5, 2, 0, 0, 0, 0, [], none, []),
  (34, .aload_n 0, 1, 0, 0, 0, 0, [], none, []),
  (35, .getfield 78, 3, 10, 26, 0, 0, [], none, [1023]),
  (38, .iload_n 1, 1, 0, 0, 0, 0, [], none, []),
  (39, .iaload, 1, 0, 0, 0, 0, [], none, []),
  (40, .ifCond .ne 18, 3, 58, 0, 0, 0, [], none, []),
  (43, .iload 4, 2, 0, 0, 0, 0, [], none, []),
  (45, .iload 5, 2, 0, 0, 0, 0, [], none, []),
  (47, .if_icmp .ne 7, 3, 54, 0, 0, 0, [], none, []),
  (50, .iconst 1, 1, 0, 0, 1, 0, [], none, []),
  (51, .goto 44, 3, 95, 0, 0, 0, [], none, []),
  (54, .iconst 0, 1, 0, 0, 0, 0, [], none, []),
  (55, .goto 40, 3, 95, 0, 0, 0, [], none, []),
  (58, .aload_n 0, 1, 0, 0, 0, 0, [], none, []),
  (59, .getfield 78, 3, 10, 26, 0, 0, [], none, [1023]),
  (62, .iload_n 1, 1, 0, 0, 0, 0, [], none, []),
  (63, .iaload, 1, 0, 0, 0, 0, [], none, []),
  (64, .iconst 1, 1, 0, 0, 1, 0, [], none, []),
  (65, .if_icmp .ne 18, 3, 83, 0, 0, 0, [], none, []),
  (68, .iload 4, 2, 0, 0, 0, 0, [], none, []),
  (70, .iload 5, 2, 0, 0, 0, 0, [], none, []),
  (72, .if_icmp .ge 7, 3, 79, 0, 0, 0, [], none, []),
  (75, .iconst 1, 1, 0, 0, 1, 0, [], none, []),
  (76, .goto 19, 3, 95, 0, 0, 0, [], none, []),
  (79, .iconst 0, 1, 0, 0, 0, 0, [], none, []),
  (80, .goto 15, 3, 95, 0, 0, 0, [], none, []),
  (83, .iload 4, 2, 0, 0, 0, 0, [], none, []),
  (85, .iload 5, 2, 0, 0, 0, 0, [], none, []),
  (87, .if_icmp .le 7, 3, 94, 0, 0, 0, [], none, []),
  (90, .iconst 1, 1, 0, 0, 1, 0, [], none, []),
  (91, .goto 4, 3, 95, 0, 0, 0, [], none, []),
  (94, .iconst 0, 1, 0, 0, 0, 0, [], none, []),
  (95, .istore 6, 2, 0, 0, 0, 0, [], none, []),
  (97, .iload 6, 2, 0, 0, 0, 0, [], none, []),
  (99, .aload_n 0, 1, 0, 0, 0, 0, [], none, []),
  (100, .getfield 69, 3, 10, 23, 0, 0, [], none, [1020]),
  (103, .iload_n 1, 1, 0, 0, 0, 0, [], none, []),
  (104, .baload, 1, 0, 0, 0, 0, [], none, []),
  (105, .if_icmp .eq 7, 3, 112, 0, 0, 0, [], none, []),
  (108, .iconst 1, 1, 0, 0, 1, 0, [], none, []),
  (109, .goto 4, 3, 113, 0, 0, 0, [], none, []),
  (112, .iconst 0, 1, 0, 0, 0, 0, [], none, []),
  (113, .ireturn, 1, 0, 0, 0, 0, [], none, [])]
theorem k_Mo_holds : zOK m_Mo_holds P_Mo_holds := (by decide +kernel : P_Mo_holds.all (zchk m_Mo_holds.1.cls m_Mo_holds.2.1) = true)

def P_Mo_areTested : List zEn := [
  (0, .iconst 1, 1, 0, 0, 1, 0, [], none, []),
  (1, .istore 4, 2, 0, 0, 0, 0, [], none, []),
  (3, .iconst 0, 1, 0, 0, 0, 0, [], none, []),
  (4, .istore 5, 2, 0, 0, 0, 0, [], none, []),
  (6, .iconst 4, 1, 0, 0, 4, 0, [], none, []),
  (7, .iload_n 1, 1, 0, 0, 0, 0, [], none, []),
  (8, .imul, 1, 0, 0, 0, 0, [], none, []),
  (9, .istore 6, 2, 0, 0, 0, 0, [], none, []),
  (11, .iload 6, 2, 0, 0, 0, 0, [], none, []),
  (13, .iconst 4, 1, 0, 0, 4, 0, [], none, []),
  (14, .iload_n 1, 1, 0, 0, 0, 0, [], none, []),
  (15, .imul, 1, 0, 0, 0, 0, [], none, []),
  (16, .aload_n 0, 1, 0, 0, 0, 0, [], none, []),
  (17, .getfield 66, 3, 10, 22, 0, 0, [], none, [1019]),
  (20, .iload_n 1, 1, 0, 0, 0, 0, [], none, []),
  (21, .iaload, 1, 0, 0, 0, 0, [], none, []),
  (22, .iadd, 1, 0, 0, 0, 0, [], none, []),
  (23, .if_icmp .ge 53, 3, 76, 0, 0, 0, [], none, []),
  (26, .aload_n 0, 1, 0, 0, 0, 0, [], none, []),
  (27, .iload 6, 2, 0, 0, 0, 0, [], none, []),
  (29, .iload_n 2, 1, 0, 0, 0, 0, [], none, []),
  (30, .iload_n 3, 1, 0, 0, 0, 0, [], none, []),
  (31, .invokevirtual 232, 3, 10, 3, 0, 0, [], some m_Mo_holds, [1283, 1285, 48, 76, 1286]),
  (34, .istore 7, 2, 0, 0, 0, 0, [], none, []),
  (36, .iload 4, 2, 0, 0, 0, 0, [], none, []),
  (38, .ifCond .eq 12, 3, 50, 0, 0, 0, [], none, []),
  (41, .iload 7, 2, 0, 0, 0, 0, [], none, []),
  (43, .ifCond .eq 7, 3, 50, 0, 0, 0, [], none, []),
  (46, .iconst 1, 1, 0, 0, 1, 0, [], none, []),
  (47, .goto 4, 3, 51, 0, 0, 0, [], none, []),
  (50, .iconst 0, 1, 0, 0, 0, 0, [], none, []),
  (51, .istore 4, 2, 0, 0, 0, 0, [], none, []),
  (53, .iload 5, 2, 0, 0, 0, 0, [], none, []),
  (55, .ifCond .ne 8, 3, 63, 0, 0, 0, [], none, []),
  (58, .iload 7, 2, 0, 0, 0, 0, [], none, []),
  (60, .ifCond .eq 7, 3, 67, 0, 0, 0, [], none, []),
  (63, .iconst 1, 1, 0, 0, 1, 0, [], none, []),
  (64, .goto 4, 3, 68, 0, 0, 0, [], none, []),
  (67, .iconst 0, 1, 0, 0, 0, 0, [], none, []),
  (68, .istore 5, 2, 0, 0, 0, 0, [], none, []),
  (70, .iinc 6 1, 3, 0, 0, 1, 0, [], none, []),
  (73, .goto (-62), 3, 11, 0, 0, 0, [], none, []),
  (76, .aload_n 0, 1, 0, 0, 0, 0, [], none, []),
  (77, .getfield 66, 3, 10, 22, 0, 0, [], none, [1019]),
  (80, .iload_n 1, 1, 0, 0, 0, 0, [], none, []),
  (81, .iaload, 1, 0, 0, 0, 0, [], none, []),
  (82, .ifCond .eq 25, 3, 107, 0, 0, 0, [], none, []),
  (85, .aload_n 0, 1, 0, 0, 0, 0, [], none, []),
  (86, .getfield 57, 3, 10, 19, 0, 0, [], none, [1016]),
  (89, .iload_n 1, 1, 0, 0, 0, 0, [], none, []),
  (90, .baload, 1, 0, 0, 0, 0, [], none, []),
  (91, .ifCond .eq 11, 3, 102, 0, 0, 0, [], none, []),
  (94, .iload 5, 2, 0, 0, 0, 0, [], none, []),
  (96, .ifCond .eq 15, 3, 111, 0, 0, 0, [], none, []),
  (99, .goto 8, 3, 107, 0, 0, 0, [], none, []),
  (102, .iload 4, 2, 0, 0, 0, 0, [], none, []),
  (104, .ifCond .eq 7, 3, 111, 0, 0, 0, [], none, []),
  (107, .iconst 1, 1, 0, 0, 1, 0, [], none, []),
  (108, .goto 4, 3, 112, 0, 0, 0, [], none, []),
  (111, .iconst 0, 1, 0, 0, 0, 0, [], none, []),
  (112, .ireturn, 1, 0, 0, 0, 0, [], none, [])]
theorem k_Mo_areTested : zOK m_Mo_areTested P_Mo_areTested := (by decide +kernel : P_Mo_areTested.all (zchk m_Mo_areTested.1.cls m_Mo_areTested.2.1) = true)

def P_Mo_decided : List zEn := [
  (0, .iload_n 3, 1, 0, 0, 0, 0, [], none, []),
  (1, .aload_n 0, 1, 0, 0, 0, 0, [], none, []),
  (2, .getfield 60, 3, 10, 20, 0, 0, [], none, [1017]),
  (5, .iload_n 1, 1, 0, 0, 0, 0, [], none, []),
  (6, .iaload, 1, 0, 0, 0, 0, [], none, []),
  (7, .if_icmp .lt 62, 3, 69, 0, 0, 0, [], none, []),
  (10, .iload_n 3, 1, 0, 0, 0, 0, [], none, []),
  (11, .aload_n 0, 1, 0, 0, 0, 0, [], none, []),
  (12, .getfield 63, 3, 10, 21, 0, 0, [], none, [1018]),
  (15, .iload_n 1, 1, 0, 0, 0, 0, [], none, []),
  (16, .iaload, 1, 0, 0, 0, 0, [], none, []),
  (17, .if_icmp .ge 52, 3, 69, 0, 0, 0, [], none, []),
  (20, .aload_n 0, 1, 0, 0, 0, 0, [], none, []),
  (21, .getfield 48, 3, 10, 16, 0, 0, [], none, [1013]),
  (24, .iload_n 1, 1, 0, 0, 0, 0, [], none, []),
  (25, .iaload, 1, 0, 0, 0, 0, [], none, []),
  (26, .bipush 10, 2, 0, 0, 10, 0, [], none, []),
  (28, .if_icmp .eq 13, 3, 41, 0, 0, 0, [], none, []),
  (31, .aload_n 0, 1, 0, 0, 0, 0, [], none, []),
  (32, .getfield 48, 3, 10, 16, 0, 0, [], none, [1013]),
  (35, .iload_n 1, 1, 0, 0, 0, 0, [], none, []),
  (36, .iaload, 1, 0, 0, 0, 0, [], none, []),
  (37, .iload_n 2, 1, 0, 0, 0, 0, [], none, []),
  (38, .if_icmp .ne 31, 3, 69, 0, 0, 0, [], none, []),
  (41, .aload_n 0, 1, 0, 0, 0, 0, [], none, []),
  (42, .iload_n 1, 1, 0, 0, 0, 0, [], none, []),
  (43, .iload 4, 2, 0, 0, 0, 0, [], none, []),
  (45, .iload 5, 2, 0, 0, 0, 0, [], none, []),
  (47, .invokevirtual 236, 3, 10, 3, 0, 0, [], some m_Mo_areTested, [1279, 1281, 47, 76, 1282]),
  (50, .ifCond .ne 15, 3, 65, 0, 0, 0, [], none, []),
  (53, .aload_n 0, 1, 0, 0, 0, 0, [], none, []),
  (54, .iload_n 1, 1, 0, 0, 0, 0, [], none, []),
  (55, .iload 5, 2, 0, 0, 0, 0, [], none, []),
  (57, .iload 4, 2, 0, 0, 0, 0, [], none, []),
  (59, .invokevirtual 236, 3, 10, 3, 0, 0, [], some m_Mo_areTested, [1279, 1281, 47, 76, 1282]),
  (62, .ifCond .eq 7, 3, 69, 0, 0, 0, [], none, []),
  (65, .iconst 1, 1, 0, 0, 1, 0, [], none, []),
  (66, .goto 4, 3, 70, 0, 0, 0, [], none, []),
  (69, .iconst 0, 1, 0, 0, 0, 0, [], none, []),
  (70, .istore 6, 2, 0, 0, 0, 0, [], none, []),
  (72, .aload_n 0, 1, 0, 0, 0, 0, [], none, []),
  (73, .iload 4, 2, 0, 0, 0, 0, [], none, []),
  (75, .aload_n 0, 1, 0, 0, 0, 0, [], none, []),
  (76, .getfield 51, 3, 10, 17, 0, 0, [], none, [1014]),
  (79, .iload_n 1, 1, 0, 0, 0, 0, [], none, []),
  (80, .iaload, 1, 0, 0, 0, 0, [], none, []),
  (81, .invokevirtual 181, 3, 10, 2, 0, 0, [], some m_Mo_field, [1200, 1202, 36, 76, 1203]),
  (84, .istore 7, 2, 0, 0, 0, 0, [], none, []),
  (86, .aload_n 0, 1, 0, 0, 0, 0, [], none, []),
  (87, .iload 5, 2, 0, 0, 0, 0, [], none, []),
  (89, .aload_n 0, 1, 0, 0, 0, 0, [], none, []),
  (90, .getfield 51, 3, 10, 17, 0, 0, [], none, [1014]),
  (93, .iload_n 1, 1, 0, 0, 0, 0, [], none, []),
  (94, .iaload, 1, 0, 0, 0, 0, [], none, []),
  (95, .invokevirtual 181, 3, 10, 2, 0, 0, [], some m_Mo_field, [1200, 1202, 36, 76, 1203]),
  (98, .istore 8, 2, 0, 0, 0, 0, [], none, []),
  (100, .iload 6, 2, 0, 0, 0, 0, [], none, []),
  (102, .ifCond .eq 10, 3, 112, 0, 0, 0, [], none, []),
  (105, .iload 7, 2, 0, 0, 0, 0, [], none, []),
  (107, .iload 8, 2, 0, 0, 0, 0, [], none, []),
  (109, .if_icmp .ne 7, 3, 116, 0, 0, 0, [], none, []),
  (112, .iconst 0, 1, 0, 0, 0, 0, [], none, []),
  (113, .goto 29, 3, 142, 0, 0, 0, [], none, []),
  (116, .iload 7, 2, 0, 0, 0, 0, [], none, []),
  (118, .iload 8, 2, 0, 0, 0, 0, [], none, []),
  (120, .if_icmp .ge 7, 3, 127, 0, 0, 0, [], none, []),
  (123, .iconst 1, 1, 0, 0, 1, 0, [], none, []),
  (124, .goto 4, 3, 128, 0, 0, 0, [], none, []),
  (127, .iconst 0, 1, 0, 0, 0, 0, [], none, []),
  (128, .aload_n 0, 1, 0, 0, 0, 0, [], none, []),
  (129, .getfield 54, 3, 10, 18, 0, 0, [], none, [1015]),
  (132, .iload_n 1, 1, 0, 0, 0, 0, [], none, []),
  (133, .baload, 1, 0, 0, 0, 0, [], none, []),
  (134, .if_icmp .ne 7, 3, 141, 0, 0, 0, [], none, []),
  (137, .iconst 1, 1, 0, 0, 1, 0, [], none, []),
  (138, .goto 4, 3, 142, 0, 0, 0, [], none, []),
  (141, .iconst (-1), 1, 0, 0, -1, 0, [], none, []),
  (142, .ireturn, 1, 0, 0, 0, 0, [], none, [])]
theorem k_Mo_decided : zOK m_Mo_decided P_Mo_decided := (by decide +kernel : P_Mo_decided.all (zchk m_Mo_decided.1.cls m_Mo_decided.2.1) = true)

def P_Mo_isAsked : List zEn := [
  (0, .iload_n 1, 1, 0, 0, 0, 0, [], none, []),
  (1, .i2l, 1, 0, 0, 0, 0, [], none, []),
  (2, .lconst 0, 1, 0, 0, 0, 0, [], none, []),
  (3, .ldc2_w 163, 3, 0, 0, 0, 9, [], none, [1180]),
  (6, .invokestatic 148, 3, 0, 3, 0, 0, [], some m_Mo_isIn, [1163, 1164, 76, 1165]),
  (9, .ifCond .eq 34, 3, 43, 0, 0, 0, [], none, []),
  (12, .iload_n 2, 1, 0, 0, 0, 0, [], none, []),
  (13, .ifCond .lt 30, 3, 43, 0, 0, 0, [], none, []),
  (16, .aload_n 0, 1, 0, 0, 0, 0, [], none, []),
  (17, .iload_n 3, 1, 0, 0, 0, 0, [], none, []),
  (18, .invokevirtual 158, 3, 10, 1, 0, 0, [], some m_Mo_isPerson, [1175, 1177, 35, 76, 1178]),
  (21, .ifCond .eq 22, 3, 43, 0, 0, 0, [], none, []),
  (24, .aload_n 0, 1, 0, 0, 0, 0, [], none, []),
  (25, .iload 4, 2, 0, 0, 0, 0, [], none, []),
  (27, .invokevirtual 158, 3, 10, 1, 0, 0, [], some m_Mo_isPerson, [1175, 1177, 35, 76, 1178]),
  (30, .ifCond .eq 13, 3, 43, 0, 0, 0, [], none, []),
  (33, .iload_n 3, 1, 0, 0, 0, 0, [], none, []),
  (34, .iload 4, 2, 0, 0, 0, 0, [], none, []),
  (36, .if_icmp .eq 7, 3, 43, 0, 0, 0, [], none, []),
  (39, .iconst 1, 1, 0, 0, 1, 0, [], none, []),
  (40, .goto 4, 3, 44, 0, 0, 0, [], none, []),
  (43, .iconst 0, 1, 0, 0, 0, 0, [], none, []),
  (44, .ireturn, 1, 0, 0, 0, 0, [], none, [])]
theorem k_Mo_isAsked : zOK m_Mo_isAsked P_Mo_isAsked := (by decide +kernel : P_Mo_isAsked.all (zchk m_Mo_isAsked.1.cls m_Mo_isAsked.2.1) = true)

def P_Mo_decides : List zEn := [
  (0, .iload_n 1, 1, 0, 0, 0, 0, [], none, []),
  (1, .ifCond .lt 24, 3, 25, 0, 0, 0, [], none, []),
  (4, .iload_n 1, 1, 0, 0, 0, 0, [], none, []),
  (5, .aload_n 0, 1, 0, 0, 0, 0, [], none, []),
  (6, .getfield 226, 3, 10, 15, 0, 0, [], none, [1012]),
  (9, .if_icmp .ge 16, 3, 25, 0, 0, 0, [], none, []),
  (12, .aload_n 0, 1, 0, 0, 0, 0, [], none, []),
  (13, .iload_n 2, 1, 0, 0, 0, 0, [], none, []),
  (14, .iload_n 3, 1, 0, 0, 0, 0, [], none, []),
  (15, .iload 4, 2, 0, 0, 0, 0, [], none, []),
  (17, .iload 5, 2, 0, 0, 0, 0, [], none, []),
  (19, .invokevirtual 239, 3, 10, 4, 0, 0, [], some m_Mo_isAsked, [1271, 1273, 45, 76, 1274]),
  (22, .ifCond .ne 8, 3, 30, 0, 0, 0, [], none, []),
  (25, .bipush (-2), 2, 0, 0, -2, 0, [], none, []),
  (27, .goto 14, 3, 41, 0, 0, 0, [], none, []),
  (30, .aload_n 0, 1, 0, 0, 0, 0, [], none, []),
  (31, .iload_n 1, 1, 0, 0, 0, 0, [], none, []),
  (32, .iload_n 2, 1, 0, 0, 0, 0, [], none, []),
  (33, .iload_n 3, 1, 0, 0, 0, 0, [], none, []),
  (34, .iload 4, 2, 0, 0, 0, 0, [], none, []),
  (36, .iload 5, 2, 0, 0, 0, 0, [], none, []),
  (38, .invokevirtual 243, 3, 10, 5, 0, 0, [], some m_Mo_decided, [1275, 1277, 46, 76, 1278]),
  (41, .ireturn, 1, 0, 0, 0, 0, [], none, [])]
theorem k_Mo_decides : zOK m_Mo_decides P_Mo_decides := (by decide +kernel : P_Mo_decides.all (zchk m_Mo_decides.1.cls m_Mo_decides.2.1) = true)

def P_Mo_hand : List zEn := [
  (0, .aload_n 0, 1, 0, 0, 0, 0, [], none, []),
  (1, .iload_n 1, 1, 0, 0, 0, 0, [], none, []),
  (2, .invokevirtual 158, 3, 10, 1, 0, 0, [], some m_Mo_isPerson, [1175, 1177, 35, 76, 1178]),
  (5, .ifCond .eq 11, 3, 16, 0, 0, 0, [], none, []),
  (8, .aload_n 0, 1, 0, 0, 0, 0, [], none, []),
  (9, .iload_n 2, 1, 0, 0, 0, 0, [], none, []),
  (10, .invokevirtual 158, 3, 10, 1, 0, 0, [], some m_Mo_isPerson, [1175, 1177, 35, 76, 1178]),
  (13, .ifCond .ne 5, 3, 18, 0, 0, 0, [], none, []),
  (16, .iconst (-1), 1, 0, 0, -1, 0, [], none, []),
  (17, .ireturn, 1, 0, 0, 0, 0, [], none, []),
  (18, .iload_n 1, 1, 0, 0, 0, 0, [], none, []),
  (19, .iload_n 2, 1, 0, 0, 0, 0, [], none, []),
  (20, .if_icmp .ne 6, 3, 26, 0, 0, 0, [], none, []),
  (23, .bipush (-2), 2, 0, 0, -2, 0, [], none, []),
  (25, .ireturn, 1, 0, 0, 0, 0, [], none, []),
  (26, .aload_n 0, 1, 0, 0, 0, 0, [], none, []),
  (27, .getfield 247, 3, 10, 33, 0, 0, [], none, [1030]),
  (30, .bipush 20, 2, 0, 0, 20, 0, [], none, []),
  (32, .if_icmp .ne 6, 3, 38, 0, 0, 0, [], none, []),
  (35, .bipush (-4), 2, 0, 0, -4, 0, [], none, []),
  (37, .ireturn, 1, 0, 0, 0, 0, [], none, []),
  (38, .aload_n 0, 1, 0, 0, 0, 0, [], none, []),
  (39, .getfield 94, 3, 10, 34, 0, 0, [], none, [1031]),
  (42, .aload_n 0, 1, 0, 0, 0, 0, [], none, []),
  (43, .getfield 247, 3, 10, 33, 0, 0, [], none, [1030]),
  (46, .iload_n 1, 1, 0, 0, 0, 0, [], none, []),
  (47, .iastore, 1, 0, 0, 0, 0, [], none, []),
  (48, .aload_n 0, 1, 0, 0, 0, 0, [], none, []),
  (49, .getfield 97, 3, 10, 35, 0, 0, [], none, [1032]),
  (52, .aload_n 0, 1, 0, 0, 0, 0, [], none, []),
  (53, .getfield 247, 3, 10, 33, 0, 0, [], none, [1030]),
  (56, .iload_n 2, 1, 0, 0, 0, 0, [], none, []),
  (57, .iastore, 1, 0, 0, 0, 0, [], none, []),
  (58, .aload_n 0, 1, 0, 0, 0, 0, [], none, []),
  (59, .dup, 1, 0, 0, 0, 0, [], none, []),
  (60, .getfield 247, 3, 10, 33, 0, 0, [], none, [1030]),
  (63, .iconst 1, 1, 0, 0, 1, 0, [], none, []),
  (64, .iadd, 1, 0, 0, 0, 0, [], none, []),
  (65, .putfield 247, 3, 10, 33, 0, 0, [], none, [1030]),
  (68, .aload_n 0, 1, 0, 0, 0, 0, [], none, []),
  (69, .getfield 247, 3, 10, 33, 0, 0, [], none, [1030]),
  (72, .ireturn, 1, 0, 0, 0, 0, [], none, [])]
theorem k_Mo_hand : zOK m_Mo_hand P_Mo_hand := (by decide +kernel : P_Mo_hand.all (zchk m_Mo_hand.1.cls m_Mo_hand.2.1) = true)

def P_Mo_handOf : List zEn := [
  (0, .iconst (-1), 1, 0, 0, -1, 0, [], none, []),
  (1, .istore_n 3, 1, 0, 0, 0, 0, [], none, []),
  (2, .iconst 0, 1, 0, 0, 0, 0, [], none, []),
  (3, .istore 4, 2, 0, 0, 0, 0, [], none, []),
  (5, .iload 4, 2, 0, 0, 0, 0, [], none, []),
  (7, .aload_n 0, 1, 0, 0, 0, 0, [], none, []),
  (8, .getfield 247, 3, 10, 33, 0, 0, [], none, [1030]),
  (11, .if_icmp .ge 60, 3, 71, 0, 0, 0, [], none, []),
  (14, .aload_n 0, 1, 0, 0, 0, 0, [], none, []),
  (15, .getfield 94, 3, 10, 34, 0, 0, [], none, [1031]),
  (18, .iload 4, 2, 0, 0, 0, 0, [], none, []),
  (20, .iaload, 1, 0, 0, 0, 0, [], none, []),
  (21, .iload_n 1, 1, 0, 0, 0, 0, [], none, []),
  (22, .if_icmp .ne 14, 3, 36, 0, 0, 0, [], none, []),
  (25, .aload_n 0, 1, 0, 0, 0, 0, [], none, []),
  (26, .getfield 97, 3, 10, 35, 0, 0, [], none, [1032]),
  (29, .iload 4, 2, 0, 0, 0, 0, [], none, []),
  (31, .iaload, 1, 0, 0, 0, 0, [], none, []),
  (32, .iload_n 2, 1, 0, 0, 0, 0, [], none, []),
  (33, .if_icmp .eq 25, 3, 58, 0, 0, 0, [], none, []),
  (36, .aload_n 0, 1, 0, 0, 0, 0, [], none, []),
  (37, .getfield 94, 3, 10, 34, 0, 0, [], none, [1031]),
  (40, .iload 4, 2, 0, 0, 0, 0, [], none, []),
  (42, .iaload, 1, 0, 0, 0, 0, [], none, []),
  (43, .iload_n 2, 1, 0, 0, 0, 0, [], none, []),
  (44, .if_icmp .ne 19, 3, 63, 0, 0, 0, [], none, []),
  (47, .aload_n 0, 1, 0, 0, 0, 0, [], none, []),
  (48, .getfield 97, 3, 10, 35, 0, 0, [], none, [1032]),
  (51, .iload 4, 2, 0, 0, 0, 0, [], none, []),
  (53, .iaload, 1, 0, 0, 0, 0, [], none, []),
  (54, .iload_n 1, 1, 0, 0, 0, 0, [], none, []),
  (55, .if_icmp .ne 8, 3, 63, 0, 0, 0, [], none, []),
  (58, .iload 4, 2, 0, 0, 0, 0, [], none, []),
  (60, .goto 4, 3, 64, 0, 0, 0, [], none, []),
  (63, .iload_n 3, 1, 0, 0, 0, 0, [], none, []),
  (64, .istore_n 3, 1, 0, 0, 0, 0, [], none, []),
  (65, .iinc 4 1, 3, 0, 0, 1, 0, [], none, []),
  (68, .goto (-63), 3, 5, 0, 0, 0, [], none, []),
  (71, .iload_n 3, 1, 0, 0, 0, 0, [], none, []),
  (72, .ireturn, 1, 0, 0, 0, 0, [], none, [])]
theorem k_Mo_handOf : zOK m_Mo_handOf P_Mo_handOf := (by decide +kernel : P_Mo_handOf.all (zchk m_Mo_handOf.1.cls m_Mo_handOf.2.1) = true)

def P_Mo_goes : List zEn := [
  (0, .iconst (-1), 1, 0, 0, -1, 0, [], none, []),
  (1, .istore 5, 2, 0, 0, 0, 0, [], none, []),
  (3, .iconst 0, 1, 0, 0, 0, 0, [], none, []),
  (4, .istore 6, 2, 0, 0, 0, 0, [], none, []),
  (6, .iload 6, 2, 0, 0, 0, 0, [], none, []),
  (8, .aload_n 0, 1, 0, 0, 0, 0, [], none, []),
  (9, .getfield 226, 3, 10, 15, 0, 0, [], none, [1012]),
  (12, .if_icmp .ge 62, 3, 74, 0, 0, 0, [], none, []),
  (15, .aload_n 0, 1, 0, 0, 0, 0, [], none, []),
  (16, .iload 6, 2, 0, 0, 0, 0, [], none, []),
  (18, .iload_n 1, 1, 0, 0, 0, 0, [], none, []),
  (19, .iload_n 2, 1, 0, 0, 0, 0, [], none, []),
  (20, .iload_n 3, 1, 0, 0, 0, 0, [], none, []),
  (21, .iload 4, 2, 0, 0, 0, 0, [], none, []),
  (23, .invokevirtual 243, 3, 10, 5, 0, 0, [], some m_Mo_decided, [1275, 1277, 46, 76, 1278]),
  (26, .ifCond .eq 42, 3, 68, 0, 0, 0, [], none, []),
  (29, .iload 5, 2, 0, 0, 0, 0, [], none, []),
  (31, .iconst (-1), 1, 0, 0, -1, 0, [], none, []),
  (32, .if_icmp .eq 27, 3, 59, 0, 0, 0, [], none, []),
  (35, .aload_n 0, 1, 0, 0, 0, 0, [], none, []),
  (36, .getfield 48, 3, 10, 16, 0, 0, [], none, [1013]),
  (39, .iload 6, 2, 0, 0, 0, 0, [], none, []),
  (41, .iaload, 1, 0, 0, 0, 0, [], none, []),
  (42, .bipush 10, 2, 0, 0, 10, 0, [], none, []),
  (44, .if_icmp .lt 15, 3, 59, 0, 0, 0, [], none, []),
  (47, .aload_n 0, 1, 0, 0, 0, 0, [], none, []),
  (48, .getfield 48, 3, 10, 16, 0, 0, [], none, [1013]),
  (51, .iload 5, 2, 0, 0, 0, 0, [], none, []),
  (53, .iaload, 1, 0, 0, 0, 0, [], none, []),
  (54, .bipush 10, 2, 0, 0, 10, 0, [], none, []),
  (56, .if_icmp .ne 8, 3, 64, 0, 0, 0, [], none, []),
  (59, .iload 6, 2, 0, 0, 0, 0, [], none, []),
  (61, .goto 5, 3, 66, 0, 0, 0, [], none, []),
  (64, .iload 5, 2, 0, 0, 0, 0, [], none, []),
  (66, .istore 5, 2, 0, 0, 0, 0, [], none, []),
  (68, .iinc 6 1, 3, 0, 0, 1, 0, [], none, []),
  (71, .goto (-65), 3, 6, 0, 0, 0, [], none, []),
  (74, .iload 5, 2, 0, 0, 0, 0, [], none, []),
  (76, .ireturn, 1, 0, 0, 0, 0, [], none, [])]
theorem k_Mo_goes : zOK m_Mo_goes P_Mo_goes := (by decide +kernel : P_Mo_goes.all (zchk m_Mo_goes.1.cls m_Mo_goes.2.1) = true)

def P_Mo_first : List zEn := [
  (0, .aload_n 0, 1, 0, 0, 0, 0, [], none, []),
  (1, .iload_n 3, 1, 0, 0, 0, 0, [], none, []),
  (2, .iload 4, 2, 0, 0, 0, 0, [], none, []),
  (4, .invokevirtual 250, 3, 10, 2, 0, 0, [], some m_Mo_handOf, [1299, 1301, 50, 76, 1302]),
  (7, .istore 5, 2, 0, 0, 0, 0, [], none, []),
  (9, .iload 5, 2, 0, 0, 0, 0, [], none, []),
  (11, .iconst (-1), 1, 0, 0, -1, 0, [], none, []),
  (12, .if_icmp .eq 20, 3, 32, 0, 0, 0, [], none, []),
  (15, .aload_n 0, 1, 0, 0, 0, 0, [], none, []),
  (16, .getfield 94, 3, 10, 34, 0, 0, [], none, [1031]),
  (19, .iload 5, 2, 0, 0, 0, 0, [], none, []),
  (21, .iaload, 1, 0, 0, 0, 0, [], none, []),
  (22, .iload_n 3, 1, 0, 0, 0, 0, [], none, []),
  (23, .if_icmp .ne 7, 3, 30, 0, 0, 0, [], none, []),
  (26, .iconst 1, 1, 0, 0, 1, 0, [], none, []),
  (27, .goto 4, 3, 31, 0, 0, 0, [], none, []),
  (30, .iconst (-1), 1, 0, 0, -1, 0, [], none, []),
  (31, .ireturn, 1, 0, 0, 0, 0, [], none, []),
  (32, .aload_n 0, 1, 0, 0, 0, 0, [], none, []),
  (33, .iload_n 1, 1, 0, 0, 0, 0, [], none, []),
  (34, .iload_n 2, 1, 0, 0, 0, 0, [], none, []),
  (35, .iload_n 3, 1, 0, 0, 0, 0, [], none, []),
  (36, .iload 4, 2, 0, 0, 0, 0, [], none, []),
  (38, .invokevirtual 253, 3, 10, 4, 0, 0, [], some m_Mo_goes, [1303, 1305, 51, 76, 1306]),
  (41, .istore 6, 2, 0, 0, 0, 0, [], none, []),
  (43, .iload 6, 2, 0, 0, 0, 0, [], none, []),
  (45, .iconst (-1), 1, 0, 0, -1, 0, [], none, []),
  (46, .if_icmp .ne 7, 3, 53, 0, 0, 0, [], none, []),
  (49, .iconst 0, 1, 0, 0, 0, 0, [], none, []),
  (50, .goto 14, 3, 64, 0, 0, 0, [], none, []),
  (53, .aload_n 0, 1, 0, 0, 0, 0, [], none, []),
  (54, .iload 6, 2, 0, 0, 0, 0, [], none, []),
  (56, .iload_n 1, 1, 0, 0, 0, 0, [], none, []),
  (57, .iload_n 2, 1, 0, 0, 0, 0, [], none, []),
  (58, .iload_n 3, 1, 0, 0, 0, 0, [], none, []),
  (59, .iload 4, 2, 0, 0, 0, 0, [], none, []),
  (61, .invokevirtual 243, 3, 10, 5, 0, 0, [], some m_Mo_decided, [1275, 1277, 46, 76, 1278]),
  (64, .ireturn, 1, 0, 0, 0, 0, [], none, [])]
theorem k_Mo_first : zOK m_Mo_first P_Mo_first := (by decide +kernel : P_Mo_first.all (zchk m_Mo_first.1.cls m_Mo_first.2.1) = true)

def P_Mo_ahead : List zEn := [
  (0, .aload_n 0, 1, 0, 0, 0, 0, [], none, []),
  (1, .iload_n 1, 1, 0, 0, 0, 0, [], none, []),
  (2, .iload_n 2, 1, 0, 0, 0, 0, [], none, []),
  (3, .iload_n 3, 1, 0, 0, 0, 0, [], none, []),
  (4, .iload 4, 2, 0, 0, 0, 0, [], none, []),
  (6, .invokevirtual 239, 3, 10, 4, 0, 0, [], some m_Mo_isAsked, [1271, 1273, 45, 76, 1274]),
  (9, .ifCond .eq 15, 3, 24, 0, 0, 0, [], none, []),
  (12, .aload_n 0, 1, 0, 0, 0, 0, [], none, []),
  (13, .iload_n 1, 1, 0, 0, 0, 0, [], none, []),
  (14, .iload_n 2, 1, 0, 0, 0, 0, [], none, []),
  (15, .iload_n 3, 1, 0, 0, 0, 0, [], none, []),
  (16, .iload 4, 2, 0, 0, 0, 0, [], none, []),
  (18, .invokevirtual 257, 3, 10, 4, 0, 0, [], some m_Mo_first, [1295, 1297, 49, 76, 1298]),
  (21, .goto 5, 3, 26, 0, 0, 0, [], none, []),
  (24, .bipush (-2), 2, 0, 0, -2, 0, [], none, []),
  (26, .ireturn, 1, 0, 0, 0, 0, [], none, [])]
theorem k_Mo_ahead : zOK m_Mo_ahead P_Mo_ahead := (by decide +kernel : P_Mo_ahead.all (zchk m_Mo_ahead.1.cls m_Mo_ahead.2.1) = true)

def P_Mo_why : List zEn := [
  (0, .aload_n 0, 1, 0, 0, 0, 0, [], none, []),
  (1, .iload_n 1, 1, 0, 0, 0, 0, [], none, []),
  (2, .iload_n 2, 1, 0, 0, 0, 0, [], none, []),
  (3, .iload_n 3, 1, 0, 0, 0, 0, [], none, []),
  (4, .iload 4, 2, 0, 0, 0, 0, [], none, []),
  (6, .invokevirtual 239, 3, 10, 4, 0, 0, [], some m_Mo_isAsked, [1271, 1273, 45, 76, 1274]),
  (9, .ifCond .ne 7, 3, 16, 0, 0, 0, [], none, []),
  (12, .iconst (-1), 1, 0, 0, -1, 0, [], none, []),
  (13, .goto 28, 3, 41, 0, 0, 0, [], none, []),
  (16, .aload_n 0, 1, 0, 0, 0, 0, [], none, []),
  (17, .iload_n 3, 1, 0, 0, 0, 0, [], none, []),
  (18, .iload 4, 2, 0, 0, 0, 0, [], none, []),
  (20, .invokevirtual 250, 3, 10, 2, 0, 0, [], some m_Mo_handOf, [1299, 1301, 50, 76, 1302]),
  (23, .iconst (-1), 1, 0, 0, -1, 0, [], none, []),
  (24, .if_icmp .eq 8, 3, 32, 0, 0, 0, [], none, []),
  (27, .bipush 100, 2, 0, 0, 100, 0, [], none, []),
  (29, .goto 12, 3, 41, 0, 0, 0, [], none, []),
  (32, .aload_n 0, 1, 0, 0, 0, 0, [], none, []),
  (33, .iload_n 1, 1, 0, 0, 0, 0, [], none, []),
  (34, .iload_n 2, 1, 0, 0, 0, 0, [], none, []),
  (35, .iload_n 3, 1, 0, 0, 0, 0, [], none, []),
  (36, .iload 4, 2, 0, 0, 0, 0, [], none, []),
  (38, .invokevirtual 253, 3, 10, 4, 0, 0, [], some m_Mo_goes, [1303, 1305, 51, 76, 1306]),
  (41, .ireturn, 1, 0, 0, 0, 0, [], none, [])]
theorem k_Mo_why : zOK m_Mo_why P_Mo_why := (by decide +kernel : P_Mo_why.all (zchk m_Mo_why.1.cls m_Mo_why.2.1) = true)

def P_Mo_quarrel : List zEn := [
  (0, .aload_n 0, 1, 0, 0, 0, 0, [], none, []),
  (1, .iload_n 1, 1, 0, 0, 0, 0, [], none, []),
  (2, .iload_n 2, 1, 0, 0, 0, 0, [], none, []),
  (3, .iload_n 3, 1, 0, 0, 0, 0, [], none, []),
  (4, .iload 4, 2, 0, 0, 0, 0, [], none, []),
  (6, .invokevirtual 239, 3, 10, 4, 0, 0, [], some m_Mo_isAsked, [1271, 1273, 45, 76, 1274]),
  (9, .ifCond .eq 14, 3, 23, 0, 0, 0, [], none, []),
  (12, .aload_n 0, 1, 0, 0, 0, 0, [], none, []),
  (13, .iload_n 3, 1, 0, 0, 0, 0, [], none, []),
  (14, .iload 4, 2, 0, 0, 0, 0, [], none, []),
  (16, .invokevirtual 250, 3, 10, 2, 0, 0, [], some m_Mo_handOf, [1299, 1301, 50, 76, 1302]),
  (19, .iconst (-1), 1, 0, 0, -1, 0, [], none, []),
  (20, .if_icmp .eq 5, 3, 25, 0, 0, 0, [], none, []),
  (23, .iconst (-1), 1, 0, 0, -1, 0, [], none, []),
  (24, .ireturn, 1, 0, 0, 0, 0, [], none, []),
  (25, .aload_n 0, 1, 0, 0, 0, 0, [], none, []),
  (26, .iload_n 1, 1, 0, 0, 0, 0, [], none, []),
  (27, .iload_n 2, 1, 0, 0, 0, 0, [], none, []),
  (28, .iload_n 3, 1, 0, 0, 0, 0, [], none, []),
  (29, .iload 4, 2, 0, 0, 0, 0, [], none, []),
  (31, .invokevirtual 253, 3, 10, 4, 0, 0, [], some m_Mo_goes, [1303, 1305, 51, 76, 1306]),
  (34, .istore 5, 2, 0, 0, 0, 0, [], none, []),
  (36, .iconst 0, 1, 0, 0, 0, 0, [], none, []),
  (37, .istore 6, 2, 0, 0, 0, 0, [], none, []),
  (39, .iload 6, 2, 0, 0, 0, 0, [], none, []),
  (41, .aload_n 0, 1, 0, 0, 0, 0, [], none, []),
  (42, .getfield 226, 3, 10, 15, 0, 0, [], none, [1012]),
  (45, .if_icmp .ge 44, 3, 89, 0, 0, 0, [], none, []),
  (48, .iload 5, 2, 0, 0, 0, 0, [], none, []),
  (50, .iconst (-1), 1, 0, 0, -1, 0, [], none, []),
  (51, .if_icmp .eq 38, 3, 89, 0, 0, 0, [], none, []),
  (54, .aload_n 0, 1, 0, 0, 0, 0, [], none, []),
  (55, .iload 6, 2, 0, 0, 0, 0, [], none, []),
  (57, .iload_n 1, 1, 0, 0, 0, 0, [], none, []),
  (58, .iload_n 2, 1, 0, 0, 0, 0, [], none, []),
  (59, .iload_n 3, 1, 0, 0, 0, 0, [], none, []),
  (60, .iload 4, 2, 0, 0, 0, 0, [], none, []),
  (62, .invokevirtual 243, 3, 10, 5, 0, 0, [], some m_Mo_decided, [1275, 1277, 46, 76, 1278]),
  (65, .aload_n 0, 1, 0, 0, 0, 0, [], none, []),
  (66, .iload 5, 2, 0, 0, 0, 0, [], none, []),
  (68, .iload_n 1, 1, 0, 0, 0, 0, [], none, []),
  (69, .iload_n 2, 1, 0, 0, 0, 0, [], none, []),
  (70, .iload_n 3, 1, 0, 0, 0, 0, [], none, []),
  (71, .iload 4, 2, 0, 0, 0, 0, [], none, []),
  (73, .invokevirtual 243, 3, 10, 5, 0, 0, [], some m_Mo_decided, [1275, 1277, 46, 76, 1278]),
  (76, .imul, 1, 0, 0, 0, 0, [], none, []),
  (77, .ifCond .ge 6, 3, 83, 0, 0, 0, [], none, []),
  (80, .iload 6, 2, 0, 0, 0, 0, [], none, []),
  (82, .ireturn, 1, 0, 0, 0, 0, [], none, []),
  (83, .iinc 6 1, 3, 0, 0, 1, 0, [], none, []),
  (86, .goto (-47), 3, 39, 0, 0, 0, [], none, []),
  (89, .iconst (-1), 1, 0, 0, -1, 0, [], none, []),
  (90, .ireturn, 1, 0, 0, 0, 0, [], none, [])]
theorem k_Mo_quarrel : zOK m_Mo_quarrel P_Mo_quarrel := (by decide +kernel : P_Mo_quarrel.all (zchk m_Mo_quarrel.1.cls m_Mo_quarrel.2.1) = true)

def P_Mo_leastAhead : List zEn := [
  (0, .iconst 0, 1, 0, 0, 0, 0, [], none, []),
  (1, .istore 4, 2, 0, 0, 0, 0, [], none, []),
  (3, .iload 4, 2, 0, 0, 0, 0, [], none, []),
  (5, .aload_n 0, 1, 0, 0, 0, 0, [], none, []),
  (6, .getfield 140, 3, 10, 5, 0, 0, [], none, [1002]),
  (9, .if_icmp .ge 41, 3, 50, 0, 0, 0, [], none, []),
  (12, .aload_n 0, 1, 0, 0, 0, 0, [], none, []),
  (13, .getfield 103, 3, 10, 38, 0, 0, [], none, [1035]),
  (16, .iload 4, 2, 0, 0, 0, 0, [], none, []),
  (18, .baload, 1, 0, 0, 0, 0, [], none, []),
  (19, .ifCond .eq 25, 3, 44, 0, 0, 0, [], none, []),
  (22, .iload 4, 2, 0, 0, 0, 0, [], none, []),
  (24, .iload_n 3, 1, 0, 0, 0, 0, [], none, []),
  (25, .if_icmp .eq 19, 3, 44, 0, 0, 0, [], none, []),
  (28, .aload_n 0, 1, 0, 0, 0, 0, [], none, []),
  (29, .iload_n 1, 1, 0, 0, 0, 0, [], none, []),
  (30, .iload_n 2, 1, 0, 0, 0, 0, [], none, []),
  (31, .iload 4, 2, 0, 0, 0, 0, [], none, []),
  (33, .iload_n 3, 1, 0, 0, 0, 0, [], none, []),
  (34, .invokevirtual 257, 3, 10, 4, 0, 0, [], some m_Mo_first, [1295, 1297, 49, 76, 1298]),
  (37, .iconst 1, 1, 0, 0, 1, 0, [], none, []),
  (38, .if_icmp .ne 6, 3, 44, 0, 0, 0, [], none, []),
  (41, .iload 4, 2, 0, 0, 0, 0, [], none, []),
  (43, .ireturn, 1, 0, 0, 0, 0, [], none, []),
  (44, .iinc 4 1, 3, 0, 0, 1, 0, [], none, []),
  (47, .goto (-44), 3, 3, 0, 0, 0, [], none, []),
  (50, .iconst (-1), 1, 0, 0, -1, 0, [], none, []),
  (51, .ireturn, 1, 0, 0, 0, 0, [], none, [])]
theorem k_Mo_leastAhead : zOK m_Mo_leastAhead P_Mo_leastAhead := (by decide +kernel : P_Mo_leastAhead.all (zchk m_Mo_leastAhead.1.cls m_Mo_leastAhead.2.1) = true)

def P_Mo_findRing : List zEn := [
  (0, .iconst 0, 1, 0, 0, 0, 0, [], none, []),
  (1, .istore 4, 2, 0, 0, 0, 0, [], none, []),
  (3, .iload_n 3, 1, 0, 0, 0, 0, [], none, []),
  (4, .istore 5, 2, 0, 0, 0, 0, [], none, []),
  (6, .iconst (-1), 1, 0, 0, -1, 0, [], none, []),
  (7, .istore 6, 2, 0, 0, 0, 0, [], none, []),
  (9, .iload 6, 2, 0, 0, 0, 0, [], none, []),
  (11, .iconst (-1), 1, 0, 0, -1, 0, [], none, []),
  (12, .if_icmp .ne 71, 3, 83, 0, 0, 0, [], none, []),
  (15, .aload_n 0, 1, 0, 0, 0, 0, [], none, []),
  (16, .getfield 109, 3, 10, 41, 0, 0, [], none, [1038]),
  (19, .iload 4, 2, 0, 0, 0, 0, [], none, []),
  (21, .iload 5, 2, 0, 0, 0, 0, [], none, []),
  (23, .iastore, 1, 0, 0, 0, 0, [], none, []),
  (24, .iinc 4 1, 3, 0, 0, 1, 0, [], none, []),
  (27, .aload_n 0, 1, 0, 0, 0, 0, [], none, []),
  (28, .iload_n 1, 1, 0, 0, 0, 0, [], none, []),
  (29, .iload_n 2, 1, 0, 0, 0, 0, [], none, []),
  (30, .iload 5, 2, 0, 0, 0, 0, [], none, []),
  (32, .invokevirtual 260, 3, 10, 3, 0, 0, [], some m_Mo_leastAhead, [1326, 1328, 53, 76, 1329]),
  (35, .istore 5, 2, 0, 0, 0, 0, [], none, []),
  (37, .iconst 0, 1, 0, 0, 0, 0, [], none, []),
  (38, .istore 7, 2, 0, 0, 0, 0, [], none, []),
  (40, .iload 7, 2, 0, 0, 0, 0, [], none, []),
  (42, .iload 4, 2, 0, 0, 0, 0, [], none, []),
  (44, .if_icmp .ge 36, 3, 80, 0, 0, 0, [], none, []),
  (47, .aload_n 0, 1, 0, 0, 0, 0, [], none, []),
  (48, .getfield 109, 3, 10, 41, 0, 0, [], none, [1038]),
  (51, .iload 7, 2, 0, 0, 0, 0, [], none, []),
  (53, .iaload, 1, 0, 0, 0, 0, [], none, []),
  (54, .iload 5, 2, 0, 0, 0, 0, [], none, []),
  (56, .if_icmp .ne 14, 3, 70, 0, 0, 0, [], none, []),
  (59, .iload 6, 2, 0, 0, 0, 0, [], none, []),
  (61, .iconst (-1), 1, 0, 0, -1, 0, [], none, []),
  (62, .if_icmp .ne 8, 3, 70, 0, 0, 0, [], none, []),
  (65, .iload 7, 2, 0, 0, 0, 0, [], none, []),
  (67, .goto 5, 3, 72, 0, 0, 0, [], none, []),
  (70, .iload 6, 2, 0, 0, 0, 0, [], none, []),
  (72, .istore 6, 2, 0, 0, 0, 0, [], none, []),
  (74, .iinc 7 1, 3, 0, 0, 1, 0, [], none, []),
  (77, .goto (-37), 3, 40, 0, 0, 0, [], none, []),
  (80, .goto (-71), 3, 9, 0, 0, 0, [], none, []),
  (83, .aload_n 0, 1, 0, 0, 0, 0, [], none, []),
  (84, .iload 4, 2, 0, 0, 0, 0, [], none, []),
  (86, .iload 6, 2, 0, 0, 0, 0, [], none, []),
  (88, .isub, 1, 0, 0, 0, 0, [], none, []),
  (89, .putfield 264, 3, 10, 40, 0, 0, [], none, [1037]),
  (92, .iconst 0, 1, 0, 0, 0, 0, [], none, []),
  (93, .istore 7, 2, 0, 0, 0, 0, [], none, []),
  (95, .iload 7, 2, 0, 0, 0, 0, [], none, []),
  (97, .aload_n 0, 1, 0, 0, 0, 0, [], none, []),
  (98, .getfield 264, 3, 10, 40, 0, 0, [], none, [1037]),
  (101, .if_icmp .ge 26, 3, 127, 0, 0, 0, [], none, []),
  (104, .aload_n 0, 1, 0, 0, 0, 0, [], none, []),
  (105, .getfield 106, 3, 10, 39, 0, 0, [], none, [1036]),
  (108, .iload 7, 2, 0, 0, 0, 0, [], none, []),
  (110, .aload_n 0, 1, 0, 0, 0, 0, [], none, []),
  (111, .getfield 109, 3, 10, 41, 0, 0, [], none, [1038]),
  (114, .iload 6, 2, 0, 0, 0, 0, [], none, []),
  (116, .iload 7, 2, 0, 0, 0, 0, [], none, []),
  (118, .iadd, 1, 0, 0, 0, 0, [], none, []),
  (119, .iaload, 1, 0, 0, 0, 0, [], none, []),
  (120, .iastore, 1, 0, 0, 0, 0, [], none, []),
  (121, .iinc 7 1, 3, 0, 0, 1, 0, [], none, []),
  (124, .goto (-29), 3, 95, 0, 0, 0, [], none, []),
  (127, .return_, 1, 0, 0, 0, 0, [], none, [])]
theorem k_Mo_findRing : zOK m_Mo_findRing P_Mo_findRing := (by decide +kernel : P_Mo_findRing.all (zchk m_Mo_findRing.1.cls m_Mo_findRing.2.1) = true)

def P_Mo_findOrder : List zEn := [
  (0, .aload_n 0, 1, 0, 0, 0, 0, [], none, []),
  (1, .iconst 0, 1, 0, 0, 0, 0, [], none, []),
  (2, .putfield 267, 3, 10, 37, 0, 0, [], none, [1034]),
  (5, .aload_n 0, 1, 0, 0, 0, 0, [], none, []),
  (6, .iconst 0, 1, 0, 0, 0, 0, [], none, []),
  (7, .putfield 264, 3, 10, 40, 0, 0, [], none, [1037]),
  (10, .iconst 0, 1, 0, 0, 0, 0, [], none, []),
  (11, .istore_n 3, 1, 0, 0, 0, 0, [], none, []),
  (12, .iconst 0, 1, 0, 0, 0, 0, [], none, []),
  (13, .istore 4, 2, 0, 0, 0, 0, [], none, []),
  (15, .iload 4, 2, 0, 0, 0, 0, [], none, []),
  (17, .aload_n 0, 1, 0, 0, 0, 0, [], none, []),
  (18, .getfield 140, 3, 10, 5, 0, 0, [], none, [1002]),
  (21, .if_icmp .ge 41, 3, 62, 0, 0, 0, [], none, []),
  (24, .aload_n 0, 1, 0, 0, 0, 0, [], none, []),
  (25, .getfield 103, 3, 10, 38, 0, 0, [], none, [1035]),
  (28, .iload 4, 2, 0, 0, 0, 0, [], none, []),
  (30, .aload_n 0, 1, 0, 0, 0, 0, [], none, []),
  (31, .getfield 41, 3, 10, 12, 0, 0, [], none, [1009]),
  (34, .iload 4, 2, 0, 0, 0, 0, [], none, []),
  (36, .baload, 1, 0, 0, 0, 0, [], none, []),
  (37, .bastore, 1, 0, 0, 0, 0, [], none, []),
  (38, .iload_n 3, 1, 0, 0, 0, 0, [], none, []),
  (39, .aload_n 0, 1, 0, 0, 0, 0, [], none, []),
  (40, .getfield 41, 3, 10, 12, 0, 0, [], none, [1009]),
  (43, .iload 4, 2, 0, 0, 0, 0, [], none, []),
  (45, .baload, 1, 0, 0, 0, 0, [], none, []),
  (46, .ifCond .eq 7, 3, 53, 0, 0, 0, [], none, []),
  (49, .iconst 1, 1, 0, 0, 1, 0, [], none, []),
  (50, .goto 4, 3, 54, 0, 0, 0, [], none, []),
  (53, .iconst 0, 1, 0, 0, 0, 0, [], none, []),
  (54, .iadd, 1, 0, 0, 0, 0, [], none, []),
  (55, .istore_n 3, 1, 0, 0, 0, 0, [], none, []),
  (56, .iinc 4 1, 3, 0, 0, 1, 0, [], none, []),
  (59, .goto (-44), 3, 15, 0, 0, 0, [], none, []),
  (62, .aload_n 0, 1, 0, 0, 0, 0, [], none, []),
  (63, .getfield 267, 3, 10, 37, 0, 0, [], none, [1034]),
  (66, .iload_n 3, 1, 0, 0, 0, 0, [], none, []),
  (67, .if_icmp .ge 131, 3, 198, 0, 0, 0, [], none, []),
  (70, .iconst (-1), 1, 0, 0, -1, 0, [], none, []),
  (71, .istore 4, 2, 0, 0, 0, 0, [], none, []),
  (73, .iconst (-1), 1, 0, 0, -1, 0, [], none, []),
  (74, .istore 5, 2, 0, 0, 0, 0, [], none, []),
  (76, .aload_n 0, 1, 0, 0, 0, 0, [], none, []),
  (77, .getfield 140, 3, 10, 5, 0, 0, [], none, [1002]),
  (80, .iconst 1, 1, 0, 0, 1, 0, [], none, []),
  (81, .isub, 1, 0, 0, 0, 0, [], none, []),
  (82, .istore 6, 2, 0, 0, 0, 0, [], none, []),
  (84, .iload 6, 2, 0, 0, 0, 0, [], none, []),
  (86, .ifCond .lt 44, 3, 130, 0, 0, 0, [], none, []),
  (89, .aload_n 0, 1, 0, 0, 0, 0, [], none, []),
  (90, .getfield 103, 3, 10, 38, 0, 0, [], none, [1035]),
  (93, .iload 6, 2, 0, 0, 0, 0, [], none, []),
  (95, .baload, 1, 0, 0, 0, 0, [], none, []),
  (96, .ifCond .eq 28, 3, 124, 0, 0, 0, [], none, []),
  (99, .iload 6, 2, 0, 0, 0, 0, [], none, []),
  (101, .istore 5, 2, 0, 0, 0, 0, [], none, []),
  (103, .aload_n 0, 1, 0, 0, 0, 0, [], none, []),
  (104, .iload_n 1, 1, 0, 0, 0, 0, [], none, []),
  (105, .iload_n 2, 1, 0, 0, 0, 0, [], none, []),
  (106, .iload 6, 2, 0, 0, 0, 0, [], none, []),
  (108, .invokevirtual 260, 3, 10, 3, 0, 0, [], some m_Mo_leastAhead, [1326, 1328, 53, 76, 1329]),
  (111, .iconst (-1), 1, 0, 0, -1, 0, [], none, []),
  (112, .if_icmp .ne 8, 3, 120, 0, 0, 0, [], none, []),
  (115, .iload 6, 2, 0, 0, 0, 0, [], none, []),
  (117, .goto 5, 3, 122, 0, 0, 0, [], none, []),
  (120, .iload 4, 2, 0, 0, 0, 0, [], none, []),
  (122, .istore 4, 2, 0, 0, 0, 0, [], none, []),
  (124, .iinc 6 (-1), 3, 0, 0, -1, 0, [], none, []),
  (127, .goto (-43), 3, 84, 0, 0, 0, [], none, []),
  (130, .iload 4, 2, 0, 0, 0, 0, [], none, []),
  (132, .iconst (-1), 1, 0, 0, -1, 0, [], none, []),
  (133, .if_icmp .ne 18, 3, 151, 0, 0, 0, [], none, []),
  (136, .aload_n 0, 1, 0, 0, 0, 0, [], none, []),
  (137, .getfield 264, 3, 10, 40, 0, 0, [], none, [1037]),
  (140, .ifCond .ne 11, 3, 151, 0, 0, 0, [], none, []),
  (143, .aload_n 0, 1, 0, 0, 0, 0, [], none, []),
  (144, .iload_n 1, 1, 0, 0, 0, 0, [], none, []),
  (145, .iload_n 2, 1, 0, 0, 0, 0, [], none, []),
  (146, .iload 5, 2, 0, 0, 0, 0, [], none, []),
  (148, .invokevirtual 270, 3, 10, 3, 0, 0, [], some m_Mo_findRing, [1330, 1332, 54, 76, 1333]),
  (151, .iload 4, 2, 0, 0, 0, 0, [], none, []),
  (153, .iconst (-1), 1, 0, 0, -1, 0, [], none, []),
  (154, .if_icmp .ne 8, 3, 162, 0, 0, 0, [], none, []),
  (157, .iload 5, 2, 0, 0, 0, 0, [], none, []),
  (159, .goto 5, 3, 164, 0, 0, 0, [], none, []),
  (162, .iload 4, 2, 0, 0, 0, 0, [], none, []),
  (164, .istore 4, 2, 0, 0, 0, 0, [], none, []),
  (166, .aload_n 0, 1, 0, 0, 0, 0, [], none, []),
  (167, .getfield 103, 3, 10, 38, 0, 0, [], none, [1035]),
  (170, .iload 4, 2, 0, 0, 0, 0, [], none, []),
  (172, .iconst 0, 1, 0, 0, 0, 0, [], none, []),
  (173, .bastore, 1, 0, 0, 0, 0, [], none, []),
  (174, .aload_n 0, 1, 0, 0, 0, 0, [], none, []),
  (175, .getfield 100, 3, 10, 36, 0, 0, [], none, [1033]),
  (178, .aload_n 0, 1, 0, 0, 0, 0, [], none, []),
  (179, .getfield 267, 3, 10, 37, 0, 0, [], none, [1034]),
  (182, .iload 4, 2, 0, 0, 0, 0, [], none, []),
  (184, .iastore, 1, 0, 0, 0, 0, [], none, []),
  (185, .aload_n 0, 1, 0, 0, 0, 0, [], none, []),
  (186, .dup, 1, 0, 0, 0, 0, [], none, []),
  (187, .getfield 267, 3, 10, 37, 0, 0, [], none, [1034]),
  (190, .iconst 1, 1, 0, 0, 1, 0, [], none, []),
  (191, .iadd, 1, 0, 0, 0, 0, [], none, []),
  (192, .putfield 267, 3, 10, 37, 0, 0, [], none, [1034]),
  (195, .goto (-133), 3, 62, 0, 0, 0, [], none, []),
  (198, .return_, 1, 0, 0, 0, 0, [], none, [])]
theorem k_Mo_findOrder : zOK m_Mo_findOrder P_Mo_findOrder := (by decide +kernel : P_Mo_findOrder.all (zchk m_Mo_findOrder.1.cls m_Mo_findOrder.2.1) = true)

def P_Mo_isOccasion : List zEn := [
  (0, .iload_n 0, 1, 0, 0, 0, 0, [], none, []),
  (1, .i2l, 1, 0, 0, 0, 0, [], none, []),
  (2, .lconst 0, 1, 0, 0, 0, 0, [], none, []),
  (3, .ldc2_w 163, 3, 0, 0, 0, 9, [], none, [1180]),
  (6, .invokestatic 148, 3, 0, 3, 0, 0, [], some m_Mo_isIn, [1163, 1164, 76, 1165]),
  (9, .ifCond .eq 11, 3, 20, 0, 0, 0, [], none, []),
  (12, .iload_n 1, 1, 0, 0, 0, 0, [], none, []),
  (13, .ifCond .lt 7, 3, 20, 0, 0, 0, [], none, []),
  (16, .iconst 1, 1, 0, 0, 1, 0, [], none, []),
  (17, .goto 4, 3, 21, 0, 0, 0, [], none, []),
  (20, .iconst 0, 1, 0, 0, 0, 0, [], none, []),
  (21, .ireturn, 1, 0, 0, 0, 0, [], none, [])]
theorem k_Mo_isOccasion : zOK m_Mo_isOccasion P_Mo_isOccasion := (by decide +kernel : P_Mo_isOccasion.all (zchk m_Mo_isOccasion.1.cls m_Mo_isOccasion.2.1) = true)

def P_Mo_order : List zEn := [
  (0, .iload_n 1, 1, 0, 0, 0, 0, [], none, []),
  (1, .iload_n 2, 1, 0, 0, 0, 0, [], none, []),
  (2, .invokestatic 274, 3, 0, 2, 0, 0, [], some m_Mo_isOccasion, [1319, 1320, 76, 1321]),
  (5, .ifCond .ne 5, 3, 10, 0, 0, 0, [], none, []),
  (8, .iconst (-1), 1, 0, 0, -1, 0, [], none, []),
  (9, .ireturn, 1, 0, 0, 0, 0, [], none, []),
  (10, .aload_n 0, 1, 0, 0, 0, 0, [], none, []),
  (11, .iload_n 1, 1, 0, 0, 0, 0, [], none, []),
  (12, .iload_n 2, 1, 0, 0, 0, 0, [], none, []),
  (13, .invokevirtual 278, 3, 10, 2, 0, 0, [], some m_Mo_findOrder, [1322, 1324, 52, 76, 1325]),
  (16, .iload_n 3, 1, 0, 0, 0, 0, [], none, []),
  (17, .ifCond .lt 11, 3, 28, 0, 0, 0, [], none, []),
  (20, .iload_n 3, 1, 0, 0, 0, 0, [], none, []),
  (21, .aload_n 0, 1, 0, 0, 0, 0, [], none, []),
  (22, .getfield 267, 3, 10, 37, 0, 0, [], none, [1034]),
  (25, .if_icmp .lt 7, 3, 32, 0, 0, 0, [], none, []),
  (28, .iconst (-1), 1, 0, 0, -1, 0, [], none, []),
  (29, .goto 9, 3, 38, 0, 0, 0, [], none, []),
  (32, .aload_n 0, 1, 0, 0, 0, 0, [], none, []),
  (33, .getfield 100, 3, 10, 36, 0, 0, [], none, [1033]),
  (36, .iload_n 3, 1, 0, 0, 0, 0, [], none, []),
  (37, .iaload, 1, 0, 0, 0, 0, [], none, []),
  (38, .ireturn, 1, 0, 0, 0, 0, [], none, [])]
theorem k_Mo_order : zOK m_Mo_order P_Mo_order := (by decide +kernel : P_Mo_order.all (zchk m_Mo_order.1.cls m_Mo_order.2.1) = true)

def P_Mo_ring : List zEn := [
  (0, .iload_n 1, 1, 0, 0, 0, 0, [], none, []),
  (1, .iload_n 2, 1, 0, 0, 0, 0, [], none, []),
  (2, .invokestatic 274, 3, 0, 2, 0, 0, [], some m_Mo_isOccasion, [1319, 1320, 76, 1321]),
  (5, .ifCond .ne 5, 3, 10, 0, 0, 0, [], none, []),
  (8, .iconst (-1), 1, 0, 0, -1, 0, [], none, []),
  (9, .ireturn, 1, 0, 0, 0, 0, [], none, []),
  (10, .aload_n 0, 1, 0, 0, 0, 0, [], none, []),
  (11, .iload_n 1, 1, 0, 0, 0, 0, [], none, []),
  (12, .iload_n 2, 1, 0, 0, 0, 0, [], none, []),
  (13, .invokevirtual 278, 3, 10, 2, 0, 0, [], some m_Mo_findOrder, [1322, 1324, 52, 76, 1325]),
  (16, .iload_n 3, 1, 0, 0, 0, 0, [], none, []),
  (17, .ifCond .lt 11, 3, 28, 0, 0, 0, [], none, []),
  (20, .iload_n 3, 1, 0, 0, 0, 0, [], none, []),
  (21, .aload_n 0, 1, 0, 0, 0, 0, [], none, []),
  (22, .getfield 264, 3, 10, 40, 0, 0, [], none, [1037]),
  (25, .if_icmp .lt 7, 3, 32, 0, 0, 0, [], none, []),
  (28, .iconst (-1), 1, 0, 0, -1, 0, [], none, []),
  (29, .goto 9, 3, 38, 0, 0, 0, [], none, []),
  (32, .aload_n 0, 1, 0, 0, 0, 0, [], none, []),
  (33, .getfield 106, 3, 10, 39, 0, 0, [], none, [1036]),
  (36, .iload_n 3, 1, 0, 0, 0, 0, [], none, []),
  (37, .iaload, 1, 0, 0, 0, 0, [], none, []),
  (38, .ireturn, 1, 0, 0, 0, 0, [], none, [])]
theorem k_Mo_ring : zOK m_Mo_ring P_Mo_ring := (by decide +kernel : P_Mo_ring.all (zchk m_Mo_ring.1.cls m_Mo_ring.2.1) = true)

def P_Mo_dean : List zEn := [
  (0, .iconst (-1), 1, 0, 0, -1, 0, [], none, []),
  (1, .istore_n 1, 1, 0, 0, 0, 0, [], none, []),
  (2, .iconst 0, 1, 0, 0, 0, 0, [], none, []),
  (3, .istore_n 2, 1, 0, 0, 0, 0, [], none, []),
  (4, .iload_n 2, 1, 0, 0, 0, 0, [], none, []),
  (5, .aload_n 0, 1, 0, 0, 0, 0, [], none, []),
  (6, .getfield 140, 3, 10, 5, 0, 0, [], none, [1002]),
  (9, .if_icmp .ge 108, 3, 117, 0, 0, 0, [], none, []),
  (12, .aload_n 0, 1, 0, 0, 0, 0, [], none, []),
  (13, .getfield 26, 3, 10, 7, 0, 0, [], none, [1004]),
  (16, .iload_n 2, 1, 0, 0, 0, 0, [], none, []),
  (17, .iaload, 1, 0, 0, 0, 0, [], none, []),
  (18, .ifCond .eq 13, 3, 31, 0, 0, 0, [], none, []),
  (21, .aload_n 0, 1, 0, 0, 0, 0, [], none, []),
  (22, .getfield 26, 3, 10, 7, 0, 0, [], none, [1004]),
  (25, .iload_n 2, 1, 0, 0, 0, 0, [], none, []),
  (26, .iaload, 1, 0, 0, 0, 0, [], none, []),
  (27, .iconst 5, 1, 0, 0, 5, 0, [], none, []),
  (28, .if_icmp .ne 25, 3, 53, 0, 0, 0, [], none, []),
  (31, .aload_n 0, 1, 0, 0, 0, 0, [], none, []),
  (32, .getfield 41, 3, 10, 12, 0, 0, [], none, [1009]),
  (35, .iload_n 2, 1, 0, 0, 0, 0, [], none, []),
  (36, .baload, 1, 0, 0, 0, 0, [], none, []),
  (37, .ifCond .eq 16, 3, 53, 0, 0, 0, [], none, []),
  (40, .aload_n 0, 1, 0, 0, 0, 0, [], none, []),
  (41, .getfield 35, 3, 10, 10, 0, 0, [], none, [1007]),
  (44, .iload_n 2, 1, 0, 0, 0, 0, [], none, []),
  (45, .iaload, 1, 0, 0, 0, 0, [], none, []),
  (46, .ifCond .le 7, 3, 53, 0, 0, 0, [], none, []),
  (49, .iconst 1, 1, 0, 0, 1, 0, [], none, []),
  (50, .goto 4, 3, 54, 0, 0, 0, [], none, []),
  (53, .iconst 0, 1, 0, 0, 0, 0, [], none, []),
  (54, .istore_n 3, 1, 0, 0, 0, 0, [], none, []),
  (55, .iload_n 3, 1, 0, 0, 0, 0, [], none, []),
  (56, .ifCond .eq 55, 3, 111, 0, 0, 0, [], none, []),
  (59, .iload_n 1, 1, 0, 0, 0, 0, [], none, []),
  (60, .iconst (-1), 1, 0, 0, -1, 0, [], none, []),
  (61, .if_icmp .eq 48, 3, 109, 0, 0, 0, [], none, []),
  (64, .aload_n 0, 1, 0, 0, 0, 0, [], none, []),
  (65, .getfield 32, 3, 10, 9, 0, 0, [], none, [1006]),
  (68, .iload_n 2, 1, 0, 0, 0, 0, [], none, []),
  (69, .iaload, 1, 0, 0, 0, 0, [], none, []),
  (70, .aload_n 0, 1, 0, 0, 0, 0, [], none, []),
  (71, .getfield 32, 3, 10, 9, 0, 0, [], none, [1006]),
  (74, .iload_n 1, 1, 0, 0, 0, 0, [], none, []),
  (75, .iaload, 1, 0, 0, 0, 0, [], none, []),
  (76, .if_icmp .lt 33, 3, 109, 0, 0, 0, [], none, []),
  (79, .aload_n 0, 1, 0, 0, 0, 0, [], none, []),
  (80, .getfield 32, 3, 10, 9, 0, 0, [], none, [1006]),
  (83, .iload_n 2, 1, 0, 0, 0, 0, [], none, []),
  (84, .iaload, 1, 0, 0, 0, 0, [], none, []),
  (85, .aload_n 0, 1, 0, 0, 0, 0, [], none, []),
  (86, .getfield 32, 3, 10, 9, 0, 0, [], none, [1006]),
  (89, .iload_n 1, 1, 0, 0, 0, 0, [], none, []),
  (90, .iaload, 1, 0, 0, 0, 0, [], none, []),
  (91, .if_icmp .ne 20, 3, 111, 0, 0, 0, [], none, []),
  (94, .aload_n 0, 1, 0, 0, 0, 0, [], none, []),
  (95, .getfield 35, 3, 10, 10, 0, 0, [], none, [1007]),
  (98, .iload_n 2, 1, 0, 0, 0, 0, [], none, []),
  (99, .iaload, 1, 0, 0, 0, 0, [], none, []),
  (100, .aload_n 0, 1, 0, 0, 0, 0, [], none, []),
  (101, .getfield 35, 3, 10, 10, 0, 0, [], none, [1007]),
  (104, .iload_n 1, 1, 0, 0, 0, 0, [], none, []),
  (105, .iaload, 1, 0, 0, 0, 0, [], none, []),
  (106, .if_icmp .ge 5, 3, 111, 0, 0, 0, [], none, []),
  (109, .iload_n 2, 1, 0, 0, 0, 0, [], none, []),
  (110, .istore_n 1, 1, 0, 0, 0, 0, [], none, []),
  (111, .iinc 2 1, 3, 0, 0, 1, 0, [], none, []),
  (114, .goto (-110), 3, 4, 0, 0, 0, [], none, []),
  (117, .iload_n 1, 1, 0, 0, 0, 0, [], none, []),
  (118, .ireturn, 1, 0, 0, 0, 0, [], none, [])]
theorem k_Mo_dean : zOK m_Mo_dean P_Mo_dean := (by decide +kernel : P_Mo_dean.all (zchk m_Mo_dean.1.cls m_Mo_dean.2.1) = true)

def P_Mo_isTable : List zEn := [
  (0, .iload_n 1, 1, 0, 0, 0, 0, [], none, []),
  (1, .ifCond .lt 15, 3, 16, 0, 0, 0, [], none, []),
  (4, .iload_n 1, 1, 0, 0, 0, 0, [], none, []),
  (5, .aload_n 0, 1, 0, 0, 0, 0, [], none, []),
  (6, .getfield 281, 3, 10, 42, 0, 0, [], none, [1039]),
  (9, .if_icmp .ge 7, 3, 16, 0, 0, 0, [], none, []),
  (12, .iconst 1, 1, 0, 0, 1, 0, [], none, []),
  (13, .goto 4, 3, 17, 0, 0, 0, [], none, []),
  (16, .iconst 0, 1, 0, 0, 0, 0, [], none, []),
  (17, .ireturn, 1, 0, 0, 0, 0, [], none, [])]
theorem k_Mo_isTable : zOK m_Mo_isTable P_Mo_isTable := (by decide +kernel : P_Mo_isTable.all (zchk m_Mo_isTable.1.cls m_Mo_isTable.2.1) = true)

def P_Mo_table : List zEn := [
  (0, .iload_n 1, 1, 0, 0, 0, 0, [], none, []),
  (1, .i2l, 1, 0, 0, 0, 0, [], none, []),
  (2, .lconst 0, 1, 0, 0, 0, 0, [], none, []),
  (3, .lconst 1, 1, 0, 0, 0, 1, [], none, []),
  (4, .invokestatic 148, 3, 0, 3, 0, 0, [], some m_Mo_isIn, [1163, 1164, 76, 1165]),
  (7, .ifCond .eq 17, 3, 24, 0, 0, 0, [], none, []),
  (10, .iload_n 2, 1, 0, 0, 0, 0, [], none, []),
  (11, .i2l, 1, 0, 0, 0, 0, [], none, []),
  (12, .ldc2_w 284, 3, 0, 0, 0, 2, [], none, [1346]),
  (15, .ldc2_w 286, 3, 0, 0, 0, 12, [], none, [1347]),
  (18, .invokestatic 148, 3, 0, 3, 0, 0, [], some m_Mo_isIn, [1163, 1164, 76, 1165]),
  (21, .ifCond .ne 6, 3, 27, 0, 0, 0, [], none, []),
  (24, .bipush (-2), 2, 0, 0, -2, 0, [], none, []),
  (26, .ireturn, 1, 0, 0, 0, 0, [], none, []),
  (27, .aload_n 0, 1, 0, 0, 0, 0, [], none, []),
  (28, .getfield 281, 3, 10, 42, 0, 0, [], none, [1039]),
  (31, .iconst 4, 1, 0, 0, 4, 0, [], none, []),
  (32, .if_icmp .ne 6, 3, 38, 0, 0, 0, [], none, []),
  (35, .bipush (-4), 2, 0, 0, -4, 0, [], none, []),
  (37, .ireturn, 1, 0, 0, 0, 0, [], none, []),
  (38, .aload_n 0, 1, 0, 0, 0, 0, [], none, []),
  (39, .getfield 112, 3, 10, 43, 0, 0, [], none, [1040]),
  (42, .aload_n 0, 1, 0, 0, 0, 0, [], none, []),
  (43, .getfield 281, 3, 10, 42, 0, 0, [], none, [1039]),
  (46, .iload_n 1, 1, 0, 0, 0, 0, [], none, []),
  (47, .iconst 1, 1, 0, 0, 1, 0, [], none, []),
  (48, .if_icmp .ne 7, 3, 55, 0, 0, 0, [], none, []),
  (51, .iconst 1, 1, 0, 0, 1, 0, [], none, []),
  (52, .goto 4, 3, 56, 0, 0, 0, [], none, []),
  (55, .iconst 0, 1, 0, 0, 0, 0, [], none, []),
  (56, .bastore, 1, 0, 0, 0, 0, [], none, []),
  (57, .aload_n 0, 1, 0, 0, 0, 0, [], none, []),
  (58, .getfield 115, 3, 10, 44, 0, 0, [], none, [1041]),
  (61, .aload_n 0, 1, 0, 0, 0, 0, [], none, []),
  (62, .getfield 281, 3, 10, 42, 0, 0, [], none, [1039]),
  (65, .iload_n 2, 1, 0, 0, 0, 0, [], none, []),
  (66, .iastore, 1, 0, 0, 0, 0, [], none, []),
  (67, .bipush 12, 2, 0, 0, 12, 0, [], none, []),
  (69, .aload_n 0, 1, 0, 0, 0, 0, [], none, []),
  (70, .getfield 281, 3, 10, 42, 0, 0, [], none, [1039]),
  (73, .imul, 1, 0, 0, 0, 0, [], none, []),
  (74, .istore_n 3, 1, 0, 0, 0, 0, [], none, []),
  (75, .iload_n 3, 1, 0, 0, 0, 0, [], none, []),
  (76, .bipush 12, 2, 0, 0, 12, 0, [], none, []),
  (78, .aload_n 0, 1, 0, 0, 0, 0, [], none, []),
  (79, .getfield 281, 3, 10, 42, 0, 0, [], none, [1039]),
  (82, .imul, 1, 0, 0, 0, 0, [], none, []),
  (83, .bipush 12, 2, 0, 0, 12, 0, [], none, []),
  (85, .iadd, 1, 0, 0, 0, 0, [], none, []),
  (86, .if_icmp .ge 16, 3, 102, 0, 0, 0, [], none, []),
  (89, .aload_n 0, 1, 0, 0, 0, 0, [], none, []),
  (90, .getfield 118, 3, 10, 45, 0, 0, [], none, [1042]),
  (93, .iload_n 3, 1, 0, 0, 0, 0, [], none, []),
  (94, .iconst (-1), 1, 0, 0, -1, 0, [], none, []),
  (95, .iastore, 1, 0, 0, 0, 0, [], none, []),
  (96, .iinc 3 1, 3, 0, 0, 1, 0, [], none, []),
  (99, .goto (-24), 3, 75, 0, 0, 0, [], none, []),
  (102, .aload_n 0, 1, 0, 0, 0, 0, [], none, []),
  (103, .dup, 1, 0, 0, 0, 0, [], none, []),
  (104, .getfield 281, 3, 10, 42, 0, 0, [], none, [1039]),
  (107, .iconst 1, 1, 0, 0, 1, 0, [], none, []),
  (108, .iadd, 1, 0, 0, 0, 0, [], none, []),
  (109, .putfield 281, 3, 10, 42, 0, 0, [], none, [1039]),
  (112, .aload_n 0, 1, 0, 0, 0, 0, [], none, []),
  (113, .getfield 281, 3, 10, 42, 0, 0, [], none, [1039]),
  (116, .iconst 1, 1, 0, 0, 1, 0, [], none, []),
  (117, .isub, 1, 0, 0, 0, 0, [], none, []),
  (118, .ireturn, 1, 0, 0, 0, 0, [], none, [])]
theorem k_Mo_table : zOK m_Mo_table P_Mo_table := (by decide +kernel : P_Mo_table.all (zchk m_Mo_table.1.cls m_Mo_table.2.1) = true)

def P_Mo_feud : List zEn := [
  (0, .aload_n 0, 1, 0, 0, 0, 0, [], none, []),
  (1, .iload_n 1, 1, 0, 0, 0, 0, [], none, []),
  (2, .invokevirtual 154, 3, 10, 1, 0, 0, [], some m_Mo_isState, [1171, 1173, 34, 76, 1174]),
  (5, .ifCond .eq 11, 3, 16, 0, 0, 0, [], none, []),
  (8, .aload_n 0, 1, 0, 0, 0, 0, [], none, []),
  (9, .iload_n 2, 1, 0, 0, 0, 0, [], none, []),
  (10, .invokevirtual 154, 3, 10, 1, 0, 0, [], some m_Mo_isState, [1171, 1173, 34, 76, 1174]),
  (13, .ifCond .ne 5, 3, 18, 0, 0, 0, [], none, []),
  (16, .iconst (-1), 1, 0, 0, -1, 0, [], none, []),
  (17, .ireturn, 1, 0, 0, 0, 0, [], none, []),
  (18, .iload_n 1, 1, 0, 0, 0, 0, [], none, []),
  (19, .iload_n 2, 1, 0, 0, 0, 0, [], none, []),
  (20, .if_icmp .eq 13, 3, 33, 0, 0, 0, [], none, []),
  (23, .iload_n 3, 1, 0, 0, 0, 0, [], none, []),
  (24, .i2l, 1, 0, 0, 0, 0, [], none, []),
  (25, .lconst 0, 1, 0, 0, 0, 0, [], none, []),
  (26, .lconst 1, 1, 0, 0, 0, 1, [], none, []),
  (27, .invokestatic 148, 3, 0, 3, 0, 0, [], some m_Mo_isIn, [1163, 1164, 76, 1165]),
  (30, .ifCond .ne 6, 3, 36, 0, 0, 0, [], none, []),
  (33, .bipush (-2), 2, 0, 0, -2, 0, [], none, []),
  (35, .ireturn, 1, 0, 0, 0, 0, [], none, []),
  (36, .aload_n 0, 1, 0, 0, 0, 0, [], none, []),
  (37, .getfield 16, 3, 10, 3, 0, 0, [], none, [1000]),
  (40, .bipush 10, 2, 0, 0, 10, 0, [], none, []),
  (42, .iload_n 1, 1, 0, 0, 0, 0, [], none, []),
  (43, .imul, 1, 0, 0, 0, 0, [], none, []),
  (44, .iload_n 2, 1, 0, 0, 0, 0, [], none, []),
  (45, .iadd, 1, 0, 0, 0, 0, [], none, []),
  (46, .baload, 1, 0, 0, 0, 0, [], none, []),
  (47, .istore 4, 2, 0, 0, 0, 0, [], none, []),
  (49, .aload_n 0, 1, 0, 0, 0, 0, [], none, []),
  (50, .getfield 16, 3, 10, 3, 0, 0, [], none, [1000]),
  (53, .bipush 10, 2, 0, 0, 10, 0, [], none, []),
  (55, .iload_n 1, 1, 0, 0, 0, 0, [], none, []),
  (56, .imul, 1, 0, 0, 0, 0, [], none, []),
  (57, .iload_n 2, 1, 0, 0, 0, 0, [], none, []),
  (58, .iadd, 1, 0, 0, 0, 0, [], none, []),
  (59, .iload_n 3, 1, 0, 0, 0, 0, [], none, []),
  (60, .iconst 1, 1, 0, 0, 1, 0, [], none, []),
  (61, .if_icmp .ne 7, 3, 68, 0, 0, 0, [], none, []),
  (64, .iconst 1, 1, 0, 0, 1, 0, [], none, []),
  (65, .goto 4, 3, 69, 0, 0, 0, [], none, []),
  (68, .iconst 0, 1, 0, 0, 0, 0, [], none, []),
  (69, .bastore, 1, 0, 0, 0, 0, [], none, []),
  (70, .aload_n 0, 1, 0, 0, 0, 0, [], none, []),
  (71, .getfield 16, 3, 10, 3, 0, 0, [], none, [1000]),
  (74, .bipush 10, 2, 0, 0, 10, 0, [], none, []),
  (76, .iload_n 2, 1, 0, 0, 0, 0, [], none, []),
  (77, .imul, 1, 0, 0, 0, 0, [], none, []),
  (78, .iload_n 1, 1, 0, 0, 0, 0, [], none, []),
  (79, .iadd, 1, 0, 0, 0, 0, [], none, []),
  (80, .iload_n 3, 1, 0, 0, 0, 0, [], none, []),
  (81, .iconst 1, 1, 0, 0, 1, 0, [], none, []),
  (82, .if_icmp .ne 7, 3, 89, 0, 0, 0, [], none, []),
  (85, .iconst 1, 1, 0, 0, 1, 0, [], none, []),
  (86, .goto 4, 3, 90, 0, 0, 0, [], none, []),
  (89, .iconst 0, 1, 0, 0, 0, 0, [], none, []),
  (90, .bastore, 1, 0, 0, 0, 0, [], none, []),
  (91, .iload 4, 2, 0, 0, 0, 0, [], none, []),
  (93, .ifCond .eq 7, 3, 100, 0, 0, 0, [], none, []),
  (96, .iconst 1, 1, 0, 0, 1, 0, [], none, []),
  (97, .goto 4, 3, 101, 0, 0, 0, [], none, []),
  (100, .iconst 0, 1, 0, 0, 0, 0, [], none, []),
  (101, .ireturn, 1, 0, 0, 0, 0, [], none, [])]
theorem k_Mo_feud : zOK m_Mo_feud P_Mo_feud := (by decide +kernel : P_Mo_feud.all (zchk m_Mo_feud.1.cls m_Mo_feud.2.1) = true)

def P_Mo_talk : List zEn := [
  (0, .iload_n 1, 1, 0, 0, 0, 0, [], none, []),
  (1, .i2l, 1, 0, 0, 0, 0, [], none, []),
  (2, .lconst 0, 1, 0, 0, 0, 0, [], none, []),
  (3, .ldc2_w 152, 3, 0, 0, 0, 7, [], none, [1166]),
  (6, .invokestatic 148, 3, 0, 3, 0, 0, [], some m_Mo_isIn, [1163, 1164, 76, 1165]),
  (9, .ifCond .eq 32, 3, 41, 0, 0, 0, [], none, []),
  (12, .iload_n 2, 1, 0, 0, 0, 0, [], none, []),
  (13, .i2l, 1, 0, 0, 0, 0, [], none, []),
  (14, .lconst 0, 1, 0, 0, 0, 0, [], none, []),
  (15, .ldc2_w 152, 3, 0, 0, 0, 7, [], none, [1166]),
  (18, .invokestatic 148, 3, 0, 3, 0, 0, [], some m_Mo_isIn, [1163, 1164, 76, 1165]),
  (21, .ifCond .eq 20, 3, 41, 0, 0, 0, [], none, []),
  (24, .iload_n 1, 1, 0, 0, 0, 0, [], none, []),
  (25, .iload_n 2, 1, 0, 0, 0, 0, [], none, []),
  (26, .if_icmp .eq 15, 3, 41, 0, 0, 0, [], none, []),
  (29, .iload_n 3, 1, 0, 0, 0, 0, [], none, []),
  (30, .i2l, 1, 0, 0, 0, 0, [], none, []),
  (31, .lconst 0, 1, 0, 0, 0, 0, [], none, []),
  (32, .ldc2_w 163, 3, 0, 0, 0, 9, [], none, [1180]),
  (35, .invokestatic 148, 3, 0, 3, 0, 0, [], some m_Mo_isIn, [1163, 1164, 76, 1165]),
  (38, .ifCond .ne 6, 3, 44, 0, 0, 0, [], none, []),
  (41, .bipush (-2), 2, 0, 0, -2, 0, [], none, []),
  (43, .ireturn, 1, 0, 0, 0, 0, [], none, []),
  (44, .aload_n 0, 1, 0, 0, 0, 0, [], none, []),
  (45, .getfield 20, 3, 10, 4, 0, 0, [], none, [1001]),
  (48, .bipush 8, 2, 0, 0, 8, 0, [], none, []),
  (50, .iload_n 1, 1, 0, 0, 0, 0, [], none, []),
  (51, .imul, 1, 0, 0, 0, 0, [], none, []),
  (52, .iload_n 2, 1, 0, 0, 0, 0, [], none, []),
  (53, .iadd, 1, 0, 0, 0, 0, [], none, []),
  (54, .iaload, 1, 0, 0, 0, 0, [], none, []),
  (55, .istore 4, 2, 0, 0, 0, 0, [], none, []),
  (57, .aload_n 0, 1, 0, 0, 0, 0, [], none, []),
  (58, .getfield 20, 3, 10, 4, 0, 0, [], none, [1001]),
  (61, .bipush 8, 2, 0, 0, 8, 0, [], none, []),
  (63, .iload_n 1, 1, 0, 0, 0, 0, [], none, []),
  (64, .imul, 1, 0, 0, 0, 0, [], none, []),
  (65, .iload_n 2, 1, 0, 0, 0, 0, [], none, []),
  (66, .iadd, 1, 0, 0, 0, 0, [], none, []),
  (67, .iload_n 3, 1, 0, 0, 0, 0, [], none, []),
  (68, .iastore, 1, 0, 0, 0, 0, [], none, []),
  (69, .aload_n 0, 1, 0, 0, 0, 0, [], none, []),
  (70, .getfield 20, 3, 10, 4, 0, 0, [], none, [1001]),
  (73, .bipush 8, 2, 0, 0, 8, 0, [], none, []),
  (75, .iload_n 2, 1, 0, 0, 0, 0, [], none, []),
  (76, .imul, 1, 0, 0, 0, 0, [], none, []),
  (77, .iload_n 1, 1, 0, 0, 0, 0, [], none, []),
  (78, .iadd, 1, 0, 0, 0, 0, [], none, []),
  (79, .iload_n 3, 1, 0, 0, 0, 0, [], none, []),
  (80, .iastore, 1, 0, 0, 0, 0, [], none, []),
  (81, .iload 4, 2, 0, 0, 0, 0, [], none, []),
  (83, .ireturn, 1, 0, 0, 0, 0, [], none, [])]
theorem k_Mo_talk : zOK m_Mo_talk P_Mo_talk := (by decide +kernel : P_Mo_talk.all (zchk m_Mo_talk.1.cls m_Mo_talk.2.1) = true)

def P_Mo_sit : List zEn := [
  (0, .aload_n 0, 1, 0, 0, 0, 0, [], none, []),
  (1, .iload_n 1, 1, 0, 0, 0, 0, [], none, []),
  (2, .invokevirtual 288, 3, 10, 1, 0, 0, [], some m_Mo_isTable, [1360, 1362, 55, 76, 1363]),
  (5, .ifCond .eq 30, 3, 35, 0, 0, 0, [], none, []),
  (8, .iload_n 2, 1, 0, 0, 0, 0, [], none, []),
  (9, .ifCond .lt 26, 3, 35, 0, 0, 0, [], none, []),
  (12, .iload_n 2, 1, 0, 0, 0, 0, [], none, []),
  (13, .aload_n 0, 1, 0, 0, 0, 0, [], none, []),
  (14, .getfield 115, 3, 10, 44, 0, 0, [], none, [1041]),
  (17, .iload_n 1, 1, 0, 0, 0, 0, [], none, []),
  (18, .iaload, 1, 0, 0, 0, 0, [], none, []),
  (19, .if_icmp .ge 16, 3, 35, 0, 0, 0, [], none, []),
  (22, .iload_n 3, 1, 0, 0, 0, 0, [], none, []),
  (23, .iconst (-1), 1, 0, 0, -1, 0, [], none, []),
  (24, .if_icmp .eq 14, 3, 38, 0, 0, 0, [], none, []),
  (27, .aload_n 0, 1, 0, 0, 0, 0, [], none, []),
  (28, .iload_n 3, 1, 0, 0, 0, 0, [], none, []),
  (29, .invokevirtual 158, 3, 10, 1, 0, 0, [], some m_Mo_isPerson, [1175, 1177, 35, 76, 1178]),
  (32, .ifCond .ne 6, 3, 38, 0, 0, 0, [], none, []),
  (35, .bipush (-5), 2, 0, 0, -5, 0, [], none, []),
  (37, .ireturn, 1, 0, 0, 0, 0, [], none, []),
  (38, .iload_n 3, 1, 0, 0, 0, 0, [], none, []),
  (39, .iconst (-1), 1, 0, 0, -1, 0, [], none, []),
  (40, .if_icmp .eq 15, 3, 55, 0, 0, 0, [], none, []),
  (43, .aload_n 0, 1, 0, 0, 0, 0, [], none, []),
  (44, .getfield 41, 3, 10, 12, 0, 0, [], none, [1009]),
  (47, .iload_n 3, 1, 0, 0, 0, 0, [], none, []),
  (48, .baload, 1, 0, 0, 0, 0, [], none, []),
  (49, .ifCond .ne 6, 3, 55, 0, 0, 0, [], none, []),
  (52, .bipush (-3), 2, 0, 0, -3, 0, [], none, []),
  (54, .ireturn, 1, 0, 0, 0, 0, [], none, []),
  (55, .aload_n 0, 1, 0, 0, 0, 0, [], none, []),
  (56, .getfield 118, 3, 10, 45, 0, 0, [], none, [1042]),
  (59, .bipush 12, 2, 0, 0, 12, 0, [], none, []),
  (61, .iload_n 1, 1, 0, 0, 0, 0, [], none, []),
  (62, .imul, 1, 0, 0, 0, 0, [], none, []),
  (63, .iload_n 2, 1, 0, 0, 0, 0, [], none, []),
  (64, .iadd, 1, 0, 0, 0, 0, [], none, []),
  (65, .iaload, 1, 0, 0, 0, 0, [], none, []),
  (66, .istore 4, 2, 0, 0, 0, 0, [], none, []),
  (68, .bipush 12, 2, 0, 0, 12, 0, [], none, []),
  (70, .iload_n 1, 1, 0, 0, 0, 0, [], none, []),
  (71, .imul, 1, 0, 0, 0, 0, [], none, []),
  (72, .istore 5, 2, 0, 0, 0, 0, [], none, []),
  (74, .iload 5, 2, 0, 0, 0, 0, [], none, []),
  (76, .bipush 12, 2, 0, 0, 12, 0, [], none, []),
  (78, .iload_n 1, 1, 0, 0, 0, 0, [], none, []),
  (79, .imul, 1, 0, 0, 0, 0, [], none, []),
  (80, .bipush 12, 2, 0, 0, 12, 0, [], none, []),
  (82, .iadd, 1, 0, 0, 0, 0, [], none, []),
  (83, .if_icmp .ge 43, 3, 126, 0, 0, 0, [], none, []),
  (86, .iload_n 3, 1, 0, 0, 0, 0, [], none, []),
  (87, .iconst (-1), 1, 0, 0, -1, 0, [], none, []),
  (88, .if_icmp .eq 38, 3, 126, 0, 0, 0, [], none, []),
  (91, .aload_n 0, 1, 0, 0, 0, 0, [], none, []),
  (92, .getfield 118, 3, 10, 45, 0, 0, [], none, [1042]),
  (95, .iload 5, 2, 0, 0, 0, 0, [], none, []),
  (97, .aload_n 0, 1, 0, 0, 0, 0, [], none, []),
  (98, .getfield 118, 3, 10, 45, 0, 0, [], none, [1042]),
  (101, .iload 5, 2, 0, 0, 0, 0, [], none, []),
  (103, .iaload, 1, 0, 0, 0, 0, [], none, []),
  (104, .iload_n 3, 1, 0, 0, 0, 0, [], none, []),
  (105, .if_icmp .ne 7, 3, 112, 0, 0, 0, [], none, []),
  (108, .iconst (-1), 1, 0, 0, -1, 0, [], none, []),
  (109, .goto 10, 3, 119, 0, 0, 0, [], none, []),
  (112, .aload_n 0, 1, 0, 0, 0, 0, [], none, []),
  (113, .getfield 118, 3, 10, 45, 0, 0, [], none, [1042]),
  (116, .iload 5, 2, 0, 0, 0, 0, [], none, []),
  (118, .iaload, 1, 0, 0, 0, 0, [], none, []),
  (119, .iastore, 1, 0, 0, 0, 0, [], none, []),
  (120, .iinc 5 1, 3, 0, 0, 1, 0, [], none, []),
  (123, .goto (-49), 3, 74, 0, 0, 0, [], none, []),
  (126, .aload_n 0, 1, 0, 0, 0, 0, [], none, []),
  (127, .getfield 118, 3, 10, 45, 0, 0, [], none, [1042]),
  (130, .bipush 12, 2, 0, 0, 12, 0, [], none, []),
  (132, .iload_n 1, 1, 0, 0, 0, 0, [], none, []),
  (133, .imul, 1, 0, 0, 0, 0, [], none, []),
  (134, .iload_n 2, 1, 0, 0, 0, 0, [], none, []),
  (135, .iadd, 1, 0, 0, 0, 0, [], none, []),
  (136, .iload_n 3, 1, 0, 0, 0, 0, [], none, []),
  (137, .iastore, 1, 0, 0, 0, 0, [], none, []),
  (138, .iload 4, 2, 0, 0, 0, 0, [], none, []),
  (140, .ireturn, 1, 0, 0, 0, 0, [], none, [])]
theorem k_Mo_sit : zOK m_Mo_sit P_Mo_sit := (by decide +kernel : P_Mo_sit.all (zchk m_Mo_sit.1.cls m_Mo_sit.2.1) = true)

def P_Mo_take : List zEn := [
  (0, .iconst 0, 1, 0, 0, 0, 0, [], none, []),
  (1, .istore_n 2, 1, 0, 0, 0, 0, [], none, []),
  (2, .iload_n 2, 1, 0, 0, 0, 0, [], none, []),
  (3, .bipush 12, 2, 0, 0, 12, 0, [], none, []),
  (5, .if_icmp .ge 26, 3, 31, 0, 0, 0, [], none, []),
  (8, .aload_n 0, 1, 0, 0, 0, 0, [], none, []),
  (9, .getfield 121, 3, 10, 46, 0, 0, [], none, [1043]),
  (12, .iload_n 2, 1, 0, 0, 0, 0, [], none, []),
  (13, .aload_n 0, 1, 0, 0, 0, 0, [], none, []),
  (14, .getfield 118, 3, 10, 45, 0, 0, [], none, [1042]),
  (17, .bipush 12, 2, 0, 0, 12, 0, [], none, []),
  (19, .iload_n 1, 1, 0, 0, 0, 0, [], none, []),
  (20, .imul, 1, 0, 0, 0, 0, [], none, []),
  (21, .iload_n 2, 1, 0, 0, 0, 0, [], none, []),
  (22, .iadd, 1, 0, 0, 0, 0, [], none, []),
  (23, .iaload, 1, 0, 0, 0, 0, [], none, []),
  (24, .iastore, 1, 0, 0, 0, 0, [], none, []),
  (25, .iinc 2 1, 3, 0, 0, 1, 0, [], none, []),
  (28, .goto (-26), 3, 2, 0, 0, 0, [], none, []),
  (31, .return_, 1, 0, 0, 0, 0, [], none, [])]
theorem k_Mo_take : zOK m_Mo_take P_Mo_take := (by decide +kernel : P_Mo_take.all (zchk m_Mo_take.1.cls m_Mo_take.2.1) = true)

def P_Mo_areFeuding : List zEn := [
  (0, .iload_n 1, 1, 0, 0, 0, 0, [], none, []),
  (1, .iconst (-1), 1, 0, 0, -1, 0, [], none, []),
  (2, .if_icmp .eq 36, 3, 38, 0, 0, 0, [], none, []),
  (5, .iload_n 2, 1, 0, 0, 0, 0, [], none, []),
  (6, .iconst (-1), 1, 0, 0, -1, 0, [], none, []),
  (7, .if_icmp .eq 31, 3, 38, 0, 0, 0, [], none, []),
  (10, .aload_n 0, 1, 0, 0, 0, 0, [], none, []),
  (11, .getfield 16, 3, 10, 3, 0, 0, [], none, [1000]),
  (14, .bipush 10, 2, 0, 0, 10, 0, [], none, []),
  (16, .aload_n 0, 1, 0, 0, 0, 0, [], none, []),
  (17, .getfield 23, 3, 10, 6, 0, 0, [], none, [1003]),
  (20, .iload_n 1, 1, 0, 0, 0, 0, [], none, []),
  (21, .iaload, 1, 0, 0, 0, 0, [], none, []),
  (22, .imul, 1, 0, 0, 0, 0, [], none, []),
  (23, .aload_n 0, 1, 0, 0, 0, 0, [], none, []),
  (24, .getfield 23, 3, 10, 6, 0, 0, [], none, [1003]),
  (27, .iload_n 2, 1, 0, 0, 0, 0, [], none, []),
  (28, .iaload, 1, 0, 0, 0, 0, [], none, []),
  (29, .iadd, 1, 0, 0, 0, 0, [], none, []),
  (30, .baload, 1, 0, 0, 0, 0, [], none, []),
  (31, .ifCond .eq 7, 3, 38, 0, 0, 0, [], none, []),
  (34, .iconst 1, 1, 0, 0, 1, 0, [], none, []),
  (35, .goto 4, 3, 39, 0, 0, 0, [], none, []),
  (38, .iconst 0, 1, 0, 0, 0, 0, [], none, []),
  (39, .ireturn, 1, 0, 0, 0, 0, [], none, [])]
theorem k_Mo_areFeuding : zOK m_Mo_areFeuding P_Mo_areFeuding := (by decide +kernel : P_Mo_areFeuding.all (zchk m_Mo_areFeuding.1.cls m_Mo_areFeuding.2.1) = true)

def P_Mo_behind : List zEn := [
  (0, .iload_n 0, 1, 0, 0, 0, 0, [], none, []),
  (1, .iconst 1, 1, 0, 0, 1, 0, [], none, []),
  (2, .iadd, 1, 0, 0, 0, 0, [], none, []),
  (3, .iload_n 1, 1, 0, 0, 0, 0, [], none, []),
  (4, .if_icmp .ne 7, 3, 11, 0, 0, 0, [], none, []),
  (7, .iconst 0, 1, 0, 0, 0, 0, [], none, []),
  (8, .goto 6, 3, 14, 0, 0, 0, [], none, []),
  (11, .iload_n 0, 1, 0, 0, 0, 0, [], none, []),
  (12, .iconst 1, 1, 0, 0, 1, 0, [], none, []),
  (13, .iadd, 1, 0, 0, 0, 0, [], none, []),
  (14, .ireturn, 1, 0, 0, 0, 0, [], none, [])]
theorem k_Mo_behind : zOK m_Mo_behind P_Mo_behind := (by decide +kernel : P_Mo_behind.all (zchk m_Mo_behind.1.cls m_Mo_behind.2.1) = true)

def P_Mo_areBeside : List zEn := [
  (0, .iload_n 2, 1, 0, 0, 0, 0, [], none, []),
  (1, .iconst 1, 1, 0, 0, 1, 0, [], none, []),
  (2, .iadd, 1, 0, 0, 0, 0, [], none, []),
  (3, .aload_n 0, 1, 0, 0, 0, 0, [], none, []),
  (4, .getfield 115, 3, 10, 44, 0, 0, [], none, [1041]),
  (7, .iload_n 1, 1, 0, 0, 0, 0, [], none, []),
  (8, .iaload, 1, 0, 0, 0, 0, [], none, []),
  (9, .if_icmp .lt 22, 3, 31, 0, 0, 0, [], none, []),
  (12, .aload_n 0, 1, 0, 0, 0, 0, [], none, []),
  (13, .getfield 112, 3, 10, 43, 0, 0, [], none, [1040]),
  (16, .iload_n 1, 1, 0, 0, 0, 0, [], none, []),
  (17, .baload, 1, 0, 0, 0, 0, [], none, []),
  (18, .ifCond .eq 17, 3, 35, 0, 0, 0, [], none, []),
  (21, .aload_n 0, 1, 0, 0, 0, 0, [], none, []),
  (22, .getfield 115, 3, 10, 44, 0, 0, [], none, [1041]),
  (25, .iload_n 1, 1, 0, 0, 0, 0, [], none, []),
  (26, .iaload, 1, 0, 0, 0, 0, [], none, []),
  (27, .iconst 2, 1, 0, 0, 2, 0, [], none, []),
  (28, .if_icmp .le 7, 3, 35, 0, 0, 0, [], none, []),
  (31, .iconst 1, 1, 0, 0, 1, 0, [], none, []),
  (32, .goto 4, 3, 36, 0, 0, 0, [], none, []),
  (35, .iconst 0, 1, 0, 0, 0, 0, [], none, []),
  (36, .ireturn, 1, 0, 0, 0, 0, [], none, [])]
theorem k_Mo_areBeside : zOK m_Mo_areBeside P_Mo_areBeside := (by decide +kernel : P_Mo_areBeside.all (zchk m_Mo_areBeside.1.cls m_Mo_areBeside.2.1) = true)

def P_Mo_isKept : List zEn := [
  (0, .aload_n 0, 1, 0, 0, 0, 0, [], none, []),
  (1, .getfield 115, 3, 10, 44, 0, 0, [], none, [1041]),
  (4, .iload_n 1, 1, 0, 0, 0, 0, [], none, []),
  (5, .iaload, 1, 0, 0, 0, 0, [], none, []),
  (6, .istore_n 2, 1, 0, 0, 0, 0, [], none, []),
  (7, .iconst 1, 1, 0, 0, 1, 0, [], none, []),
  (8, .istore_n 3, 1, 0, 0, 0, 0, [], none, []),
  (9, .iconst 0, 1, 0, 0, 0, 0, [], none, []),
  (10, .istore 4, 2, 0, 0, 0, 0, [], none, []),
  (12, .iload 4, 2, 0, 0, 0, 0, [], none, []),
  (14, .iload_n 2, 1, 0, 0, 0, 0, [], none, []),
  (15, .if_icmp .ge 109, 3, 124, 0, 0, 0, [], none, []),
  (18, .iload_n 3, 1, 0, 0, 0, 0, [], none, []),
  (19, .ifCond .eq 42, 3, 61, 0, 0, 0, [], none, []),
  (22, .aload_n 0, 1, 0, 0, 0, 0, [], none, []),
  (23, .iload_n 1, 1, 0, 0, 0, 0, [], none, []),
  (24, .iload 4, 2, 0, 0, 0, 0, [], none, []),
  (26, .invokevirtual 291, 3, 10, 2, 0, 0, [], some m_Mo_areBeside, [1379, 1381, 58, 76, 1382]),
  (29, .ifCond .eq 28, 3, 57, 0, 0, 0, [], none, []),
  (32, .aload_n 0, 1, 0, 0, 0, 0, [], none, []),
  (33, .aload_n 0, 1, 0, 0, 0, 0, [], none, []),
  (34, .getfield 121, 3, 10, 46, 0, 0, [], none, [1043]),
  (37, .iload 4, 2, 0, 0, 0, 0, [], none, []),
  (39, .iaload, 1, 0, 0, 0, 0, [], none, []),
  (40, .aload_n 0, 1, 0, 0, 0, 0, [], none, []),
  (41, .getfield 121, 3, 10, 46, 0, 0, [], none, [1043]),
  (44, .iload 4, 2, 0, 0, 0, 0, [], none, []),
  (46, .iload_n 2, 1, 0, 0, 0, 0, [], none, []),
  (47, .invokestatic 294, 3, 0, 2, 0, 0, [], some m_Mo_behind, [1376, 1377, 76, 1378]),
  (50, .iaload, 1, 0, 0, 0, 0, [], none, []),
  (51, .invokevirtual 297, 3, 10, 2, 0, 0, [], some m_Mo_areFeuding, [1391, 1393, 60, 76, 1394]),
  (54, .ifCond .ne 7, 3, 61, 0, 0, 0, [], none, []),
  (57, .iconst 1, 1, 0, 0, 1, 0, [], none, []),
  (58, .goto 4, 3, 62, 0, 0, 0, [], none, []),
  (61, .iconst 0, 1, 0, 0, 0, 0, [], none, []),
  (62, .istore_n 3, 1, 0, 0, 0, 0, [], none, []),
  (63, .iload_n 3, 1, 0, 0, 0, 0, [], none, []),
  (64, .ifCond .eq 52, 3, 116, 0, 0, 0, [], none, []),
  (67, .aload_n 0, 1, 0, 0, 0, 0, [], none, []),
  (68, .getfield 112, 3, 10, 43, 0, 0, [], none, [1040]),
  (71, .iload_n 1, 1, 0, 0, 0, 0, [], none, []),
  (72, .baload, 1, 0, 0, 0, 0, [], none, []),
  (73, .ifCond .ne 39, 3, 112, 0, 0, 0, [], none, []),
  (76, .iload 4, 2, 0, 0, 0, 0, [], none, []),
  (78, .iload_n 2, 1, 0, 0, 0, 0, [], none, []),
  (79, .iconst 1, 1, 0, 0, 1, 0, [], none, []),
  (80, .isub, 1, 0, 0, 0, 0, [], none, []),
  (81, .iload 4, 2, 0, 0, 0, 0, [], none, []),
  (83, .isub, 1, 0, 0, 0, 0, [], none, []),
  (84, .if_icmp .eq 28, 3, 112, 0, 0, 0, [], none, []),
  (87, .aload_n 0, 1, 0, 0, 0, 0, [], none, []),
  (88, .aload_n 0, 1, 0, 0, 0, 0, [], none, []),
  (89, .getfield 121, 3, 10, 46, 0, 0, [], none, [1043]),
  (92, .iload 4, 2, 0, 0, 0, 0, [], none, []),
  (94, .iaload, 1, 0, 0, 0, 0, [], none, []),
  (95, .aload_n 0, 1, 0, 0, 0, 0, [], none, []),
  (96, .getfield 121, 3, 10, 46, 0, 0, [], none, [1043]),
  (99, .iload_n 2, 1, 0, 0, 0, 0, [], none, []),
  (100, .iconst 1, 1, 0, 0, 1, 0, [], none, []),
  (101, .isub, 1, 0, 0, 0, 0, [], none, []),
  (102, .iload 4, 2, 0, 0, 0, 0, [], none, []),
  (104, .isub, 1, 0, 0, 0, 0, [], none, []),
  (105, .iaload, 1, 0, 0, 0, 0, [], none, []),
  (106, .invokevirtual 297, 3, 10, 2, 0, 0, [], some m_Mo_areFeuding, [1391, 1393, 60, 76, 1394]),
  (109, .ifCond .ne 7, 3, 116, 0, 0, 0, [], none, []),
  (112, .iconst 1, 1, 0, 0, 1, 0, [], none, []),
  (113, .goto 4, 3, 117, 0, 0, 0, [], none, []),
  (116, .iconst 0, 1, 0, 0, 0, 0, [], none, []),
  (117, .istore_n 3, 1, 0, 0, 0, 0, [], none, []),
  (118, .iinc 4 1, 3, 0, 0, 1, 0, [], none, []),
  (121, .goto (-109), 3, 12, 0, 0, 0, [], none, []),
  (124, .iload_n 3, 1, 0, 0, 0, 0, [], none, []),
  (125, .ireturn, 1, 0, 0, 0, 0, [], none, [])]
theorem k_Mo_isKept : zOK m_Mo_isKept P_Mo_isKept := (by decide +kernel : P_Mo_isKept.all (zchk m_Mo_isKept.1.cls m_Mo_isKept.2.1) = true)

def P_Mo_priceOf : List zEn := [
  (0, .aload_n 0, 1, 0, 0, 0, 0, [], none, []),
  (1, .getfield 115, 3, 10, 44, 0, 0, [], none, [1041]),
  (4, .iload_n 1, 1, 0, 0, 0, 0, [], none, []),
  (5, .iaload, 1, 0, 0, 0, 0, [], none, []),
  (6, .istore_n 2, 1, 0, 0, 0, 0, [], none, []),
  (7, .iconst 0, 1, 0, 0, 0, 0, [], none, []),
  (8, .istore_n 3, 1, 0, 0, 0, 0, [], none, []),
  (9, .iconst 0, 1, 0, 0, 0, 0, [], none, []),
  (10, .istore 4, 2, 0, 0, 0, 0, [], none, []),
  (12, .iconst 0, 1, 0, 0, 0, 0, [], none, []),
  (13, .istore 5, 2, 0, 0, 0, 0, [], none, []),
  (15, .iload 5, 2, 0, 0, 0, 0, [], none, []),
  (17, .aload_n 0, 1, 0, 0, 0, 0, [], none, []),
  (18, .getfield 267, 3, 10, 37, 0, 0, [], none, [1034]),
  (21, .if_icmp .ge 67, 3, 88, 0, 0, 0, [], none, []),
  (24, .iconst 0, 1, 0, 0, 0, 0, [], none, []),
  (25, .istore 6, 2, 0, 0, 0, 0, [], none, []),
  (27, .iload 6, 2, 0, 0, 0, 0, [], none, []),
  (29, .iload_n 2, 1, 0, 0, 0, 0, [], none, []),
  (30, .if_icmp .ge 52, 3, 82, 0, 0, 0, [], none, []),
  (33, .aload_n 0, 1, 0, 0, 0, 0, [], none, []),
  (34, .getfield 121, 3, 10, 46, 0, 0, [], none, [1043]),
  (37, .iload 6, 2, 0, 0, 0, 0, [], none, []),
  (39, .iaload, 1, 0, 0, 0, 0, [], none, []),
  (40, .aload_n 0, 1, 0, 0, 0, 0, [], none, []),
  (41, .getfield 100, 3, 10, 36, 0, 0, [], none, [1033]),
  (44, .iload 5, 2, 0, 0, 0, 0, [], none, []),
  (46, .iaload, 1, 0, 0, 0, 0, [], none, []),
  (47, .if_icmp .ne 29, 3, 76, 0, 0, 0, [], none, []),
  (50, .iload_n 3, 1, 0, 0, 0, 0, [], none, []),
  (51, .iload 4, 2, 0, 0, 0, 0, [], none, []),
  (53, .iload 6, 2, 0, 0, 0, 0, [], none, []),
  (55, .if_icmp .le 11, 3, 66, 0, 0, 0, [], none, []),
  (58, .iload 4, 2, 0, 0, 0, 0, [], none, []),
  (60, .iload 6, 2, 0, 0, 0, 0, [], none, []),
  (62, .isub, 1, 0, 0, 0, 0, [], none, []),
  (63, .goto 8, 3, 71, 0, 0, 0, [], none, []),
  (66, .iload 6, 2, 0, 0, 0, 0, [], none, []),
  (68, .iload 4, 2, 0, 0, 0, 0, [], none, []),
  (70, .isub, 1, 0, 0, 0, 0, [], none, []),
  (71, .iadd, 1, 0, 0, 0, 0, [], none, []),
  (72, .istore_n 3, 1, 0, 0, 0, 0, [], none, []),
  (73, .iinc 4 1, 3, 0, 0, 1, 0, [], none, []),
  (76, .iinc 6 1, 3, 0, 0, 1, 0, [], none, []),
  (79, .goto (-52), 3, 27, 0, 0, 0, [], none, []),
  (82, .iinc 5 1, 3, 0, 0, 1, 0, [], none, []),
  (85, .goto (-70), 3, 15, 0, 0, 0, [], none, []),
  (88, .iconst 0, 1, 0, 0, 0, 0, [], none, []),
  (89, .istore 5, 2, 0, 0, 0, 0, [], none, []),
  (91, .iload 5, 2, 0, 0, 0, 0, [], none, []),
  (93, .iload_n 2, 1, 0, 0, 0, 0, [], none, []),
  (94, .if_icmp .ge 82, 3, 176, 0, 0, 0, [], none, []),
  (97, .aload_n 0, 1, 0, 0, 0, 0, [], none, []),
  (98, .getfield 121, 3, 10, 46, 0, 0, [], none, [1043]),
  (101, .iload 5, 2, 0, 0, 0, 0, [], none, []),
  (103, .iload_n 2, 1, 0, 0, 0, 0, [], none, []),
  (104, .invokestatic 294, 3, 0, 2, 0, 0, [], some m_Mo_behind, [1376, 1377, 76, 1378]),
  (107, .iaload, 1, 0, 0, 0, 0, [], none, []),
  (108, .istore 6, 2, 0, 0, 0, 0, [], none, []),
  (110, .aload_n 0, 1, 0, 0, 0, 0, [], none, []),
  (111, .iload_n 1, 1, 0, 0, 0, 0, [], none, []),
  (112, .iload 5, 2, 0, 0, 0, 0, [], none, []),
  (114, .invokevirtual 291, 3, 10, 2, 0, 0, [], some m_Mo_areBeside, [1379, 1381, 58, 76, 1382]),
  (117, .ifCond .eq 53, 3, 170, 0, 0, 0, [], none, []),
  (120, .aload_n 0, 1, 0, 0, 0, 0, [], none, []),
  (121, .getfield 121, 3, 10, 46, 0, 0, [], none, [1043]),
  (124, .iload 5, 2, 0, 0, 0, 0, [], none, []),
  (126, .iaload, 1, 0, 0, 0, 0, [], none, []),
  (127, .iconst (-1), 1, 0, 0, -1, 0, [], none, []),
  (128, .if_icmp .eq 42, 3, 170, 0, 0, 0, [], none, []),
  (131, .iload 6, 2, 0, 0, 0, 0, [], none, []),
  (133, .iconst (-1), 1, 0, 0, -1, 0, [], none, []),
  (134, .if_icmp .eq 36, 3, 170, 0, 0, 0, [], none, []),
  (137, .iload_n 3, 1, 0, 0, 0, 0, [], none, []),
  (138, .aload_n 0, 1, 0, 0, 0, 0, [], none, []),
  (139, .getfield 20, 3, 10, 4, 0, 0, [], none, [1001]),
  (142, .bipush 8, 2, 0, 0, 8, 0, [], none, []),
  (144, .aload_n 0, 1, 0, 0, 0, 0, [], none, []),
  (145, .aload_n 0, 1, 0, 0, 0, 0, [], none, []),
  (146, .getfield 121, 3, 10, 46, 0, 0, [], none, [1043]),
  (149, .iload 5, 2, 0, 0, 0, 0, [], none, []),
  (151, .iaload, 1, 0, 0, 0, 0, [], none, []),
  (152, .bipush 6, 2, 0, 0, 6, 0, [], none, []),
  (154, .invokevirtual 181, 3, 10, 2, 0, 0, [], some m_Mo_field, [1200, 1202, 36, 76, 1203]),
  (157, .imul, 1, 0, 0, 0, 0, [], none, []),
  (158, .aload_n 0, 1, 0, 0, 0, 0, [], none, []),
  (159, .iload 6, 2, 0, 0, 0, 0, [], none, []),
  (161, .bipush 6, 2, 0, 0, 6, 0, [], none, []),
  (163, .invokevirtual 181, 3, 10, 2, 0, 0, [], some m_Mo_field, [1200, 1202, 36, 76, 1203]),
  (166, .iadd, 1, 0, 0, 0, 0, [], none, []),
  (167, .iaload, 1, 0, 0, 0, 0, [], none, []),
  (168, .iadd, 1, 0, 0, 0, 0, [], none, []),
  (169, .istore_n 3, 1, 0, 0, 0, 0, [], none, []),
  (170, .iinc 5 1, 3, 0, 0, 1, 0, [], none, []),
  (173, .goto (-82), 3, 91, 0, 0, 0, [], none, []),
  (176, .iload_n 3, 1, 0, 0, 0, 0, [], none, []),
  (177, .ireturn, 1, 0, 0, 0, 0, [], none, [])]
theorem k_Mo_priceOf : zOK m_Mo_priceOf P_Mo_priceOf := (by decide +kernel : P_Mo_priceOf.all (zchk m_Mo_priceOf.1.cls m_Mo_priceOf.2.1) = true)

def P_Mo_price : List zEn := [
  (0, .aload_n 0, 1, 0, 0, 0, 0, [], none, []),
  (1, .iload_n 1, 1, 0, 0, 0, 0, [], none, []),
  (2, .invokevirtual 288, 3, 10, 1, 0, 0, [], some m_Mo_isTable, [1360, 1362, 55, 76, 1363]),
  (5, .ifCond .eq 11, 3, 16, 0, 0, 0, [], none, []),
  (8, .iload_n 2, 1, 0, 0, 0, 0, [], none, []),
  (9, .iload_n 3, 1, 0, 0, 0, 0, [], none, []),
  (10, .invokestatic 274, 3, 0, 2, 0, 0, [], some m_Mo_isOccasion, [1319, 1320, 76, 1321]),
  (13, .ifCond .ne 5, 3, 18, 0, 0, 0, [], none, []),
  (16, .iconst (-1), 1, 0, 0, -1, 0, [], none, []),
  (17, .ireturn, 1, 0, 0, 0, 0, [], none, []),
  (18, .aload_n 0, 1, 0, 0, 0, 0, [], none, []),
  (19, .iload_n 2, 1, 0, 0, 0, 0, [], none, []),
  (20, .iload_n 3, 1, 0, 0, 0, 0, [], none, []),
  (21, .invokevirtual 278, 3, 10, 2, 0, 0, [], some m_Mo_findOrder, [1322, 1324, 52, 76, 1325]),
  (24, .aload_n 0, 1, 0, 0, 0, 0, [], none, []),
  (25, .iload_n 1, 1, 0, 0, 0, 0, [], none, []),
  (26, .invokevirtual 300, 3, 10, 1, 0, 0, [], some m_Mo_take, [1368, 1370, 56, 76, 1371]),
  (29, .aload_n 0, 1, 0, 0, 0, 0, [], none, []),
  (30, .iload_n 1, 1, 0, 0, 0, 0, [], none, []),
  (31, .invokevirtual 303, 3, 10, 1, 0, 0, [], some m_Mo_priceOf, [1372, 1374, 57, 76, 1375]),
  (34, .ireturn, 1, 0, 0, 0, 0, [], none, [])]
theorem k_Mo_price : zOK m_Mo_price P_Mo_price := (by decide +kernel : P_Mo_price.all (zchk m_Mo_price.1.cls m_Mo_price.2.1) = true)

def P_Mo_keeps : List zEn := [
  (0, .aload_n 0, 1, 0, 0, 0, 0, [], none, []),
  (1, .iload_n 1, 1, 0, 0, 0, 0, [], none, []),
  (2, .invokevirtual 288, 3, 10, 1, 0, 0, [], some m_Mo_isTable, [1360, 1362, 55, 76, 1363]),
  (5, .ifCond .ne 5, 3, 10, 0, 0, 0, [], none, []),
  (8, .iconst (-1), 1, 0, 0, -1, 0, [], none, []),
  (9, .ireturn, 1, 0, 0, 0, 0, [], none, []),
  (10, .aload_n 0, 1, 0, 0, 0, 0, [], none, []),
  (11, .iload_n 1, 1, 0, 0, 0, 0, [], none, []),
  (12, .invokevirtual 300, 3, 10, 1, 0, 0, [], some m_Mo_take, [1368, 1370, 56, 76, 1371]),
  (15, .aload_n 0, 1, 0, 0, 0, 0, [], none, []),
  (16, .iload_n 1, 1, 0, 0, 0, 0, [], none, []),
  (17, .invokevirtual 306, 3, 10, 1, 0, 0, [], some m_Mo_isKept, [1387, 1389, 59, 76, 1390]),
  (20, .ifCond .eq 7, 3, 27, 0, 0, 0, [], none, []),
  (23, .iconst 1, 1, 0, 0, 1, 0, [], none, []),
  (24, .goto 4, 3, 28, 0, 0, 0, [], none, []),
  (27, .iconst 0, 1, 0, 0, 0, 0, [], none, []),
  (28, .ireturn, 1, 0, 0, 0, 0, [], none, [])]
theorem k_Mo_keeps : zOK m_Mo_keeps P_Mo_keeps := (by decide +kernel : P_Mo_keeps.all (zchk m_Mo_keeps.1.cls m_Mo_keeps.2.1) = true)

def P_Mo_isNext : List zEn := [
  (0, .iload_n 1, 1, 0, 0, 0, 0, [], none, []),
  (1, .iconst 2, 1, 0, 0, 2, 0, [], none, []),
  (2, .isub, 1, 0, 0, 0, 0, [], none, []),
  (3, .istore_n 2, 1, 0, 0, 0, 0, [], none, []),
  (4, .iload_n 2, 1, 0, 0, 0, 0, [], none, []),
  (5, .ifCond .lt 26, 3, 31, 0, 0, 0, [], none, []),
  (8, .aload_n 0, 1, 0, 0, 0, 0, [], none, []),
  (9, .getfield 121, 3, 10, 46, 0, 0, [], none, [1043]),
  (12, .iload_n 2, 1, 0, 0, 0, 0, [], none, []),
  (13, .iaload, 1, 0, 0, 0, 0, [], none, []),
  (14, .aload_n 0, 1, 0, 0, 0, 0, [], none, []),
  (15, .getfield 121, 3, 10, 46, 0, 0, [], none, [1043]),
  (18, .iload_n 2, 1, 0, 0, 0, 0, [], none, []),
  (19, .iconst 1, 1, 0, 0, 1, 0, [], none, []),
  (20, .iadd, 1, 0, 0, 0, 0, [], none, []),
  (21, .iaload, 1, 0, 0, 0, 0, [], none, []),
  (22, .if_icmp .le 9, 3, 31, 0, 0, 0, [], none, []),
  (25, .iinc 2 (-1), 3, 0, 0, -1, 0, [], none, []),
  (28, .goto (-24), 3, 4, 0, 0, 0, [], none, []),
  (31, .iload_n 2, 1, 0, 0, 0, 0, [], none, []),
  (32, .ifCond .ge 5, 3, 37, 0, 0, 0, [], none, []),
  (35, .iconst 0, 1, 0, 0, 0, 0, [], none, []),
  (36, .ireturn, 1, 0, 0, 0, 0, [], none, []),
  (37, .iload_n 1, 1, 0, 0, 0, 0, [], none, []),
  (38, .iconst 1, 1, 0, 0, 1, 0, [], none, []),
  (39, .isub, 1, 0, 0, 0, 0, [], none, []),
  (40, .istore_n 3, 1, 0, 0, 0, 0, [], none, []),
  (41, .aload_n 0, 1, 0, 0, 0, 0, [], none, []),
  (42, .getfield 121, 3, 10, 46, 0, 0, [], none, [1043]),
  (45, .iload_n 3, 1, 0, 0, 0, 0, [], none, []),
  (46, .iaload, 1, 0, 0, 0, 0, [], none, []),
  (47, .aload_n 0, 1, 0, 0, 0, 0, [], none, []),
  (48, .getfield 121, 3, 10, 46, 0, 0, [], none, [1043]),
  (51, .iload_n 2, 1, 0, 0, 0, 0, [], none, []),
  (52, .iaload, 1, 0, 0, 0, 0, [], none, []),
  (53, .if_icmp .ge 9, 3, 62, 0, 0, 0, [], none, []),
  (56, .iinc 3 (-1), 3, 0, 0, -1, 0, [], none, []),
  (59, .goto (-18), 3, 41, 0, 0, 0, [], none, []),
  (62, .aload_n 0, 1, 0, 0, 0, 0, [], none, []),
  (63, .getfield 121, 3, 10, 46, 0, 0, [], none, [1043]),
  (66, .iload_n 2, 1, 0, 0, 0, 0, [], none, []),
  (67, .iaload, 1, 0, 0, 0, 0, [], none, []),
  (68, .istore 4, 2, 0, 0, 0, 0, [], none, []),
  (70, .aload_n 0, 1, 0, 0, 0, 0, [], none, []),
  (71, .getfield 121, 3, 10, 46, 0, 0, [], none, [1043]),
  (74, .iload_n 2, 1, 0, 0, 0, 0, [], none, []),
  (75, .aload_n 0, 1, 0, 0, 0, 0, [], none, []),
  (76, .getfield 121, 3, 10, 46, 0, 0, [], none, [1043]),
  (79, .iload_n 3, 1, 0, 0, 0, 0, [], none, []),
  (80, .iaload, 1, 0, 0, 0, 0, [], none, []),
  (81, .iastore, 1, 0, 0, 0, 0, [], none, []),
  (82, .aload_n 0, 1, 0, 0, 0, 0, [], none, []),
  (83, .getfield 121, 3, 10, 46, 0, 0, [], none, [1043]),
  (86, .iload_n 3, 1, 0, 0, 0, 0, [], none, []),
  (87, .iload 4, 2, 0, 0, 0, 0, [], none, []),
  (89, .iastore, 1, 0, 0, 0, 0, [], none, []),
  (90, .iload_n 2, 1, 0, 0, 0, 0, [], none, []),
  (91, .iconst 1, 1, 0, 0, 1, 0, [], none, []),
  (92, .iadd, 1, 0, 0, 0, 0, [], none, []),
  (93, .istore 5, 2, 0, 0, 0, 0, [], none, []),
  (95, .iload_n 1, 1, 0, 0, 0, 0, [], none, []),
  (96, .iconst 1, 1, 0, 0, 1, 0, [], none, []),
  (97, .isub, 1, 0, 0, 0, 0, [], none, []),
  (98, .istore 6, 2, 0, 0, 0, 0, [], none, []),
  (100, .iload 5, 2, 0, 0, 0, 0, [], none, []),
  (102, .iload 6, 2, 0, 0, 0, 0, [], none, []),
  (104, .if_icmp .ge 44, 3, 148, 0, 0, 0, [], none, []),
  (107, .aload_n 0, 1, 0, 0, 0, 0, [], none, []),
  (108, .getfield 121, 3, 10, 46, 0, 0, [], none, [1043]),
  (111, .iload 5, 2, 0, 0, 0, 0, [], none, []),
  (113, .iaload, 1, 0, 0, 0, 0, [], none, []),
  (114, .istore 4, 2, 0, 0, 0, 0, [], none, []),
  (116, .aload_n 0, 1, 0, 0, 0, 0, [], none, []),
  (117, .getfield 121, 3, 10, 46, 0, 0, [], none, [1043]),
  (120, .iload 5, 2, 0, 0, 0, 0, [], none, []),
  (122, .aload_n 0, 1, 0, 0, 0, 0, [], none, []),
  (123, .getfield 121, 3, 10, 46, 0, 0, [], none, [1043]),
  (126, .iload 6, 2, 0, 0, 0, 0, [], none, []),
  (128, .iaload, 1, 0, 0, 0, 0, [], none, []),
  (129, .iastore, 1, 0, 0, 0, 0, [], none, []),
  (130, .aload_n 0, 1, 0, 0, 0, 0, [], none, []),
  (131, .getfield 121, 3, 10, 46, 0, 0, [], none, [1043]),
  (134, .iload 6, 2, 0, 0, 0, 0, [], none, []),
  (136, .iload 4, 2, 0, 0, 0, 0, [], none, []),
  (138, .iastore, 1, 0, 0, 0, 0, [], none, []),
  (139, .iinc 5 1, 3, 0, 0, 1, 0, [], none, []),
  (142, .iinc 6 (-1), 3, 0, 0, -1, 0, [], none, []),
  (145, .goto (-45), 3, 100, 0, 0, 0, [], none, []),
  (148, .iconst 1, 1, 0, 0, 1, 0, [], none, []),
  (149, .ireturn, 1, 0, 0, 0, 0, [], none, [])]
theorem k_Mo_isNext : zOK m_Mo_isNext P_Mo_isNext := (by decide +kernel : P_Mo_isNext.all (zchk m_Mo_isNext.1.cls m_Mo_isNext.2.1) = true)

def P_Mo_begin : List zEn := [
  (0, .iconst 0, 1, 0, 0, 0, 0, [], none, []),
  (1, .istore_n 2, 1, 0, 0, 0, 0, [], none, []),
  (2, .iconst 0, 1, 0, 0, 0, 0, [], none, []),
  (3, .istore_n 3, 1, 0, 0, 0, 0, [], none, []),
  (4, .iload_n 3, 1, 0, 0, 0, 0, [], none, []),
  (5, .bipush 12, 2, 0, 0, 12, 0, [], none, []),
  (7, .if_icmp .ge 16, 3, 23, 0, 0, 0, [], none, []),
  (10, .aload_n 0, 1, 0, 0, 0, 0, [], none, []),
  (11, .getfield 121, 3, 10, 46, 0, 0, [], none, [1043]),
  (14, .iload_n 3, 1, 0, 0, 0, 0, [], none, []),
  (15, .iconst (-1), 1, 0, 0, -1, 0, [], none, []),
  (16, .iastore, 1, 0, 0, 0, 0, [], none, []),
  (17, .iinc 3 1, 3, 0, 0, 1, 0, [], none, []),
  (20, .goto (-16), 3, 4, 0, 0, 0, [], none, []),
  (23, .iconst 0, 1, 0, 0, 0, 0, [], none, []),
  (24, .istore_n 3, 1, 0, 0, 0, 0, [], none, []),
  (25, .iload_n 3, 1, 0, 0, 0, 0, [], none, []),
  (26, .aload_n 0, 1, 0, 0, 0, 0, [], none, []),
  (27, .getfield 140, 3, 10, 5, 0, 0, [], none, [1002]),
  (30, .if_icmp .ge 28, 3, 58, 0, 0, 0, [], none, []),
  (33, .iload_n 1, 1, 0, 0, 0, 0, [], none, []),
  (34, .iload_n 3, 1, 0, 0, 0, 0, [], none, []),
  (35, .ishr, 1, 0, 0, 0, 0, [], none, []),
  (36, .iconst 1, 1, 0, 0, 1, 0, [], none, []),
  (37, .iand, 1, 0, 0, 0, 0, [], none, []),
  (38, .iconst 1, 1, 0, 0, 1, 0, [], none, []),
  (39, .if_icmp .ne 13, 3, 52, 0, 0, 0, [], none, []),
  (42, .aload_n 0, 1, 0, 0, 0, 0, [], none, []),
  (43, .getfield 121, 3, 10, 46, 0, 0, [], none, [1043]),
  (46, .iload_n 2, 1, 0, 0, 0, 0, [], none, []),
  (47, .iload_n 3, 1, 0, 0, 0, 0, [], none, []),
  (48, .iastore, 1, 0, 0, 0, 0, [], none, []),
  (49, .iinc 2 1, 3, 0, 0, 1, 0, [], none, []),
  (52, .iinc 3 1, 3, 0, 0, 1, 0, [], none, []),
  (55, .goto (-30), 3, 25, 0, 0, 0, [], none, []),
  (58, .iload_n 2, 1, 0, 0, 0, 0, [], none, []),
  (59, .ireturn, 1, 0, 0, 0, 0, [], none, [])]
theorem k_Mo_begin : zOK m_Mo_begin P_Mo_begin := (by decide +kernel : P_Mo_begin.all (zchk m_Mo_begin.1.cls m_Mo_begin.2.1) = true)

def P_Mo_countBits : List zEn := [
  (0, .iconst 0, 1, 0, 0, 0, 0, [], none, []),
  (1, .istore_n 1, 1, 0, 0, 0, 0, [], none, []),
  (2, .iconst 0, 1, 0, 0, 0, 0, [], none, []),
  (3, .istore_n 2, 1, 0, 0, 0, 0, [], none, []),
  (4, .iload_n 2, 1, 0, 0, 0, 0, [], none, []),
  (5, .bipush 31, 2, 0, 0, 31, 0, [], none, []),
  (7, .if_icmp .ge 17, 3, 24, 0, 0, 0, [], none, []),
  (10, .iload_n 1, 1, 0, 0, 0, 0, [], none, []),
  (11, .iload_n 0, 1, 0, 0, 0, 0, [], none, []),
  (12, .iload_n 2, 1, 0, 0, 0, 0, [], none, []),
  (13, .ishr, 1, 0, 0, 0, 0, [], none, []),
  (14, .iconst 1, 1, 0, 0, 1, 0, [], none, []),
  (15, .iand, 1, 0, 0, 0, 0, [], none, []),
  (16, .iadd, 1, 0, 0, 0, 0, [], none, []),
  (17, .istore_n 1, 1, 0, 0, 0, 0, [], none, []),
  (18, .iinc 2 1, 3, 0, 0, 1, 0, [], none, []),
  (21, .goto (-17), 3, 4, 0, 0, 0, [], none, []),
  (24, .iload_n 1, 1, 0, 0, 0, 0, [], none, []),
  (25, .ireturn, 1, 0, 0, 0, 0, [], none, [])]
theorem k_Mo_countBits : zOK m_Mo_countBits P_Mo_countBits := (by decide +kernel : P_Mo_countBits.all (zchk m_Mo_countBits.1.cls m_Mo_countBits.2.1) = true)

def P_Mo_lay : List zEn := [
  (0, .aload_n 0, 1, 0, 0, 0, 0, [], none, []),
  (1, .iload_n 1, 1, 0, 0, 0, 0, [], none, []),
  (2, .invokevirtual 288, 3, 10, 1, 0, 0, [], some m_Mo_isTable, [1360, 1362, 55, 76, 1363]),
  (5, .ifCond .eq 11, 3, 16, 0, 0, 0, [], none, []),
  (8, .iload_n 2, 1, 0, 0, 0, 0, [], none, []),
  (9, .iload_n 3, 1, 0, 0, 0, 0, [], none, []),
  (10, .invokestatic 274, 3, 0, 2, 0, 0, [], some m_Mo_isOccasion, [1319, 1320, 76, 1321]),
  (13, .ifCond .ne 5, 3, 18, 0, 0, 0, [], none, []),
  (16, .iconst (-1), 1, 0, 0, -1, 0, [], none, []),
  (17, .ireturn, 1, 0, 0, 0, 0, [], none, []),
  (18, .iload 4, 2, 0, 0, 0, 0, [], none, []),
  (20, .ifCond .le 38, 3, 58, 0, 0, 0, [], none, []),
  (23, .iload 4, 2, 0, 0, 0, 0, [], none, []),
  (25, .iconst 1, 1, 0, 0, 1, 0, [], none, []),
  (26, .aload_n 0, 1, 0, 0, 0, 0, [], none, []),
  (27, .getfield 140, 3, 10, 5, 0, 0, [], none, [1002]),
  (30, .ishl, 1, 0, 0, 0, 0, [], none, []),
  (31, .if_icmp .ge 27, 3, 58, 0, 0, 0, [], none, []),
  (34, .iload 4, 2, 0, 0, 0, 0, [], none, []),
  (36, .invokestatic 309, 3, 0, 1, 0, 0, [], some m_Mo_countBits, [1399, 1400, 76, 1401]),
  (39, .bipush 7, 2, 0, 0, 7, 0, [], none, []),
  (41, .if_icmp .gt 17, 3, 58, 0, 0, 0, [], none, []),
  (44, .iload 4, 2, 0, 0, 0, 0, [], none, []),
  (46, .invokestatic 309, 3, 0, 1, 0, 0, [], some m_Mo_countBits, [1399, 1400, 76, 1401]),
  (49, .aload_n 0, 1, 0, 0, 0, 0, [], none, []),
  (50, .getfield 115, 3, 10, 44, 0, 0, [], none, [1041]),
  (53, .iload_n 1, 1, 0, 0, 0, 0, [], none, []),
  (54, .iaload, 1, 0, 0, 0, 0, [], none, []),
  (55, .if_icmp .le 6, 3, 61, 0, 0, 0, [], none, []),
  (58, .bipush (-2), 2, 0, 0, -2, 0, [], none, []),
  (60, .ireturn, 1, 0, 0, 0, 0, [], none, []),
  (61, .iconst 0, 1, 0, 0, 0, 0, [], none, []),
  (62, .istore 5, 2, 0, 0, 0, 0, [], none, []),
  (64, .iload 5, 2, 0, 0, 0, 0, [], none, []),
  (66, .aload_n 0, 1, 0, 0, 0, 0, [], none, []),
  (67, .getfield 140, 3, 10, 5, 0, 0, [], none, [1002]),
  (70, .if_icmp .ge 33, 3, 103, 0, 0, 0, [], none, []),
  (73, .iload 4, 2, 0, 0, 0, 0, [], none, []),
  (75, .iload 5, 2, 0, 0, 0, 0, [], none, []),
  (77, .ishr, 1, 0, 0, 0, 0, [], none, []),
  (78, .iconst 1, 1, 0, 0, 1, 0, [], none, []),
  (79, .iand, 1, 0, 0, 0, 0, [], none, []),
  (80, .iconst 1, 1, 0, 0, 1, 0, [], none, []),
  (81, .if_icmp .ne 16, 3, 97, 0, 0, 0, [], none, []),
  (84, .aload_n 0, 1, 0, 0, 0, 0, [], none, []),
  (85, .getfield 41, 3, 10, 12, 0, 0, [], none, [1009]),
  (88, .iload 5, 2, 0, 0, 0, 0, [], none, []),
  (90, .baload, 1, 0, 0, 0, 0, [], none, []),
  (91, .ifCond .ne 6, 3, 97, 0, 0, 0, [], none, []),
  (94, .bipush (-3), 2, 0, 0, -3, 0, [], none, []),
  (96, .ireturn, 1, 0, 0, 0, 0, [], none, []),
  (97, .iinc 5 1, 3, 0, 0, 1, 0, [], none, []),
  (100, .goto (-36), 3, 64, 0, 0, 0, [], none, []),
  (103, .aload_n 0, 1, 0, 0, 0, 0, [], none, []),
  (104, .iload_n 2, 1, 0, 0, 0, 0, [], none, []),
  (105, .iload_n 3, 1, 0, 0, 0, 0, [], none, []),
  (106, .invokevirtual 278, 3, 10, 2, 0, 0, [], some m_Mo_findOrder, [1322, 1324, 52, 76, 1325]),
  (109, .aload_n 0, 1, 0, 0, 0, 0, [], none, []),
  (110, .iload 4, 2, 0, 0, 0, 0, [], none, []),
  (112, .invokevirtual 312, 3, 10, 1, 0, 0, [], some m_Mo_begin, [1402, 1404, 61, 76, 1405]),
  (115, .istore 5, 2, 0, 0, 0, 0, [], none, []),
  (117, .bipush (-6), 2, 0, 0, -6, 0, [], none, []),
  (119, .istore 6, 2, 0, 0, 0, 0, [], none, []),
  (121, .iconst 1, 1, 0, 0, 1, 0, [], none, []),
  (122, .istore 7, 2, 0, 0, 0, 0, [], none, []),
  (124, .iload 7, 2, 0, 0, 0, 0, [], none, []),
  (126, .ifCond .eq 75, 3, 201, 0, 0, 0, [], none, []),
  (129, .aload_n 0, 1, 0, 0, 0, 0, [], none, []),
  (130, .iload_n 1, 1, 0, 0, 0, 0, [], none, []),
  (131, .invokevirtual 306, 3, 10, 1, 0, 0, [], some m_Mo_isKept, [1387, 1389, 59, 76, 1390]),
  (134, .ifCond .eq 56, 3, 190, 0, 0, 0, [], none, []),
  (137, .aload_n 0, 1, 0, 0, 0, 0, [], none, []),
  (138, .iload_n 1, 1, 0, 0, 0, 0, [], none, []),
  (139, .invokevirtual 303, 3, 10, 1, 0, 0, [], some m_Mo_priceOf, [1372, 1374, 57, 76, 1375]),
  (142, .istore 8, 2, 0, 0, 0, 0, [], none, []),
  (144, .iload 6, 2, 0, 0, 0, 0, [], none, []),
  (146, .ifCond .lt 10, 3, 156, 0, 0, 0, [], none, []),
  (149, .iload 8, 2, 0, 0, 0, 0, [], none, []),
  (151, .iload 6, 2, 0, 0, 0, 0, [], none, []),
  (153, .if_icmp .ge 37, 3, 190, 0, 0, 0, [], none, []),
  (156, .iload 8, 2, 0, 0, 0, 0, [], none, []),
  (158, .istore 6, 2, 0, 0, 0, 0, [], none, []),
  (160, .iconst 0, 1, 0, 0, 0, 0, [], none, []),
  (161, .istore 9, 2, 0, 0, 0, 0, [], none, []),
  (163, .iload 9, 2, 0, 0, 0, 0, [], none, []),
  (165, .bipush 12, 2, 0, 0, 12, 0, [], none, []),
  (167, .if_icmp .ge 23, 3, 190, 0, 0, 0, [], none, []),
  (170, .aload_n 0, 1, 0, 0, 0, 0, [], none, []),
  (171, .getfield 124, 3, 10, 47, 0, 0, [], none, [1044]),
  (174, .iload 9, 2, 0, 0, 0, 0, [], none, []),
  (176, .aload_n 0, 1, 0, 0, 0, 0, [], none, []),
  (177, .getfield 121, 3, 10, 46, 0, 0, [], none, [1043]),
  (180, .iload 9, 2, 0, 0, 0, 0, [], none, []),
  (182, .iaload, 1, 0, 0, 0, 0, [], none, []),
  (183, .iastore, 1, 0, 0, 0, 0, [], none, []),
  (184, .iinc 9 1, 3, 0, 0, 1, 0, [], none, []),
  (187, .goto (-24), 3, 163, 0, 0, 0, [], none, []),
  (190, .aload_n 0, 1, 0, 0, 0, 0, [], none, []),
  (191, .iload 5, 2, 0, 0, 0, 0, [], none, []),
  (193, .invokevirtual 315, 3, 10, 1, 0, 0, [], some m_Mo_isNext, [1406, 1408, 62, 76, 1409]),
  (196, .istore 7, 2, 0, 0, 0, 0, [], none, []),
  (198, .goto (-74), 3, 124, 0, 0, 0, [], none, []),
  (201, .iconst 0, 1, 0, 0, 0, 0, [], none, []),
  (202, .istore 8, 2, 0, 0, 0, 0, [], none, []),
  (204, .iload 8, 2, 0, 0, 0, 0, [], none, []),
  (206, .bipush 12, 2, 0, 0, 12, 0, [], none, []),
  (208, .if_icmp .ge 33, 3, 241, 0, 0, 0, [], none, []),
  (211, .iload 6, 2, 0, 0, 0, 0, [], none, []),
  (213, .ifCond .lt 28, 3, 241, 0, 0, 0, [], none, []),
  (216, .aload_n 0, 1, 0, 0, 0, 0, [], none, []),
  (217, .getfield 118, 3, 10, 45, 0, 0, [], none, [1042]),
  (220, .bipush 12, 2, 0, 0, 12, 0, [], none, []),
  (222, .iload_n 1, 1, 0, 0, 0, 0, [], none, []),
  (223, .imul, 1, 0, 0, 0, 0, [], none, []),
  (224, .iload 8, 2, 0, 0, 0, 0, [], none, []),
  (226, .iadd, 1, 0, 0, 0, 0, [], none, []),
  (227, .aload_n 0, 1, 0, 0, 0, 0, [], none, []),
  (228, .getfield 124, 3, 10, 47, 0, 0, [], none, [1044]),
  (231, .iload 8, 2, 0, 0, 0, 0, [], none, []),
  (233, .iaload, 1, 0, 0, 0, 0, [], none, []),
  (234, .iastore, 1, 0, 0, 0, 0, [], none, []),
  (235, .iinc 8 1, 3, 0, 0, 1, 0, [], none, []),
  (238, .goto (-34), 3, 204, 0, 0, 0, [], none, []),
  (241, .iload 6, 2, 0, 0, 0, 0, [], none, []),
  (243, .ireturn, 1, 0, 0, 0, 0, [], none, [])]
theorem k_Mo_lay : zOK m_Mo_lay P_Mo_lay := (by decide +kernel : P_Mo_lay.all (zchk m_Mo_lay.1.cls m_Mo_lay.2.1) = true)

def P_Mo_close : List zEn := [
  (0, .aload_n 0, 1, 0, 0, 0, 0, [], none, []),
  (1, .iload_n 1, 1, 0, 0, 0, 0, [], none, []),
  (2, .invokevirtual 288, 3, 10, 1, 0, 0, [], some m_Mo_isTable, [1360, 1362, 55, 76, 1363]),
  (5, .ifCond .ne 5, 3, 10, 0, 0, 0, [], none, []),
  (8, .iconst (-1), 1, 0, 0, -1, 0, [], none, []),
  (9, .ireturn, 1, 0, 0, 0, 0, [], none, []),
  (10, .iconst 0, 1, 0, 0, 0, 0, [], none, []),
  (11, .istore_n 2, 1, 0, 0, 0, 0, [], none, []),
  (12, .bipush 12, 2, 0, 0, 12, 0, [], none, []),
  (14, .iload_n 1, 1, 0, 0, 0, 0, [], none, []),
  (15, .imul, 1, 0, 0, 0, 0, [], none, []),
  (16, .istore_n 3, 1, 0, 0, 0, 0, [], none, []),
  (17, .iload_n 3, 1, 0, 0, 0, 0, [], none, []),
  (18, .bipush 12, 2, 0, 0, 12, 0, [], none, []),
  (20, .iload_n 1, 1, 0, 0, 0, 0, [], none, []),
  (21, .imul, 1, 0, 0, 0, 0, [], none, []),
  (22, .bipush 12, 2, 0, 0, 12, 0, [], none, []),
  (24, .iadd, 1, 0, 0, 0, 0, [], none, []),
  (25, .if_icmp .ge 46, 3, 71, 0, 0, 0, [], none, []),
  (28, .aload_n 0, 1, 0, 0, 0, 0, [], none, []),
  (29, .getfield 118, 3, 10, 45, 0, 0, [], none, [1042]),
  (32, .iload_n 3, 1, 0, 0, 0, 0, [], none, []),
  (33, .iaload, 1, 0, 0, 0, 0, [], none, []),
  (34, .istore 4, 2, 0, 0, 0, 0, [], none, []),
  (36, .aload_n 0, 1, 0, 0, 0, 0, [], none, []),
  (37, .getfield 118, 3, 10, 45, 0, 0, [], none, [1042]),
  (40, .iload_n 3, 1, 0, 0, 0, 0, [], none, []),
  (41, .iconst (-1), 1, 0, 0, -1, 0, [], none, []),
  (42, .iastore, 1, 0, 0, 0, 0, [], none, []),
  (43, .iload 4, 2, 0, 0, 0, 0, [], none, []),
  (45, .iconst (-1), 1, 0, 0, -1, 0, [], none, []),
  (46, .if_icmp .eq 19, 3, 65, 0, 0, 0, [], none, []),
  (49, .aload_n 0, 1, 0, 0, 0, 0, [], none, []),
  (50, .getfield 118, 3, 10, 45, 0, 0, [], none, [1042]),
  (53, .bipush 12, 2, 0, 0, 12, 0, [], none, []),
  (55, .iload_n 1, 1, 0, 0, 0, 0, [], none, []),
  (56, .imul, 1, 0, 0, 0, 0, [], none, []),
  (57, .iload_n 2, 1, 0, 0, 0, 0, [], none, []),
  (58, .iadd, 1, 0, 0, 0, 0, [], none, []),
  (59, .iload 4, 2, 0, 0, 0, 0, [], none, []),
  (61, .iastore, 1, 0, 0, 0, 0, [], none, []),
  (62, .iinc 2 1, 3, 0, 0, 1, 0, [], none, []),
  (65, .iinc 3 1, 3, 0, 0, 1, 0, [], none, []),
  (68, .goto (-51), 3, 17, 0, 0, 0, [], none, []),
  (71, .iload_n 2, 1, 0, 0, 0, 0, [], none, []),
  (72, .ireturn, 1, 0, 0, 0, 0, [], none, [])]
theorem k_Mo_close : zOK m_Mo_close P_Mo_close := (by decide +kernel : P_Mo_close.all (zchk m_Mo_close.1.cls m_Mo_close.2.1) = true)

def P_Mo_seat : List zEn := [
  (0, .aload_n 0, 1, 0, 0, 0, 0, [], none, []),
  (1, .iload_n 1, 1, 0, 0, 0, 0, [], none, []),
  (2, .invokevirtual 288, 3, 10, 1, 0, 0, [], some m_Mo_isTable, [1360, 1362, 55, 76, 1363]),
  (5, .ifCond .eq 31, 3, 36, 0, 0, 0, [], none, []),
  (8, .iload_n 2, 1, 0, 0, 0, 0, [], none, []),
  (9, .ifCond .lt 27, 3, 36, 0, 0, 0, [], none, []),
  (12, .iload_n 2, 1, 0, 0, 0, 0, [], none, []),
  (13, .aload_n 0, 1, 0, 0, 0, 0, [], none, []),
  (14, .getfield 115, 3, 10, 44, 0, 0, [], none, [1041]),
  (17, .iload_n 1, 1, 0, 0, 0, 0, [], none, []),
  (18, .iaload, 1, 0, 0, 0, 0, [], none, []),
  (19, .if_icmp .ge 17, 3, 36, 0, 0, 0, [], none, []),
  (22, .aload_n 0, 1, 0, 0, 0, 0, [], none, []),
  (23, .getfield 118, 3, 10, 45, 0, 0, [], none, [1042]),
  (26, .bipush 12, 2, 0, 0, 12, 0, [], none, []),
  (28, .iload_n 1, 1, 0, 0, 0, 0, [], none, []),
  (29, .imul, 1, 0, 0, 0, 0, [], none, []),
  (30, .iload_n 2, 1, 0, 0, 0, 0, [], none, []),
  (31, .iadd, 1, 0, 0, 0, 0, [], none, []),
  (32, .iaload, 1, 0, 0, 0, 0, [], none, []),
  (33, .goto 4, 3, 37, 0, 0, 0, [], none, []),
  (36, .iconst (-1), 1, 0, 0, -1, 0, [], none, []),
  (37, .ireturn, 1, 0, 0, 0, 0, [], none, [])]
theorem k_Mo_seat : zOK m_Mo_seat P_Mo_seat := (by decide +kernel : P_Mo_seat.all (zchk m_Mo_seat.1.cls m_Mo_seat.2.1) = true)

def P_Mo_forget : List zEn := [
  (0, .aload_n 0, 1, 0, 0, 0, 0, [], none, []),
  (1, .dup, 1, 0, 0, 0, 0, [], none, []),
  (2, .getfield 318, 3, 10, 48, 0, 0, [], none, [1045]),
  (5, .iconst 1, 1, 0, 0, 1, 0, [], none, []),
  (6, .isub, 1, 0, 0, 0, 0, [], none, []),
  (7, .putfield 318, 3, 10, 48, 0, 0, [], none, [1045]),
  (10, .iload_n 1, 1, 0, 0, 0, 0, [], none, []),
  (11, .istore_n 2, 1, 0, 0, 0, 0, [], none, []),
  (12, .iload_n 2, 1, 0, 0, 0, 0, [], none, []),
  (13, .aload_n 0, 1, 0, 0, 0, 0, [], none, []),
  (14, .getfield 318, 3, 10, 48, 0, 0, [], none, [1045]),
  (17, .if_icmp .ge 51, 3, 68, 0, 0, 0, [], none, []),
  (20, .aload_n 0, 1, 0, 0, 0, 0, [], none, []),
  (21, .getfield 127, 3, 10, 49, 0, 0, [], none, [1046]),
  (24, .iload_n 2, 1, 0, 0, 0, 0, [], none, []),
  (25, .aload_n 0, 1, 0, 0, 0, 0, [], none, []),
  (26, .getfield 127, 3, 10, 49, 0, 0, [], none, [1046]),
  (29, .iload_n 2, 1, 0, 0, 0, 0, [], none, []),
  (30, .iconst 1, 1, 0, 0, 1, 0, [], none, []),
  (31, .iadd, 1, 0, 0, 0, 0, [], none, []),
  (32, .iaload, 1, 0, 0, 0, 0, [], none, []),
  (33, .iastore, 1, 0, 0, 0, 0, [], none, []),
  (34, .aload_n 0, 1, 0, 0, 0, 0, [], none, []),
  (35, .getfield 130, 3, 10, 50, 0, 0, [], none, [1047]),
  (38, .iload_n 2, 1, 0, 0, 0, 0, [], none, []),
  (39, .aload_n 0, 1, 0, 0, 0, 0, [], none, []),
  (40, .getfield 130, 3, 10, 50, 0, 0, [], none, [1047]),
  (43, .iload_n 2, 1, 0, 0, 0, 0, [], none, []),
  (44, .iconst 1, 1, 0, 0, 1, 0, [], none, []),
  (45, .iadd, 1, 0, 0, 0, 0, [], none, []),
  (46, .iaload, 1, 0, 0, 0, 0, [], none, []),
  (47, .iastore, 1, 0, 0, 0, 0, [], none, []),
  (48, .aload_n 0, 1, 0, 0, 0, 0, [], none, []),
  (49, .getfield 133, 3, 10, 51, 0, 0, [], none, [1048]),
  (52, .iload_n 2, 1, 0, 0, 0, 0, [], none, []),
  (53, .aload_n 0, 1, 0, 0, 0, 0, [], none, []),
  (54, .getfield 133, 3, 10, 51, 0, 0, [], none, [1048]),
  (57, .iload_n 2, 1, 0, 0, 0, 0, [], none, []),
  (58, .iconst 1, 1, 0, 0, 1, 0, [], none, []),
  (59, .iadd, 1, 0, 0, 0, 0, [], none, []),
  (60, .iaload, 1, 0, 0, 0, 0, [], none, []),
  (61, .iastore, 1, 0, 0, 0, 0, [], none, []),
  (62, .iinc 2 1, 3, 0, 0, 1, 0, [], none, []),
  (65, .goto (-53), 3, 12, 0, 0, 0, [], none, []),
  (68, .return_, 1, 0, 0, 0, 0, [], none, [])]
theorem k_Mo_forget : zOK m_Mo_forget P_Mo_forget := (by decide +kernel : P_Mo_forget.all (zchk m_Mo_forget.1.cls m_Mo_forget.2.1) = true)

def P_Mo_oldest : List zEn := [
  (0, .iconst 0, 1, 0, 0, 0, 0, [], none, []),
  (1, .istore_n 3, 1, 0, 0, 0, 0, [], none, []),
  (2, .iload_n 3, 1, 0, 0, 0, 0, [], none, []),
  (3, .aload_n 0, 1, 0, 0, 0, 0, [], none, []),
  (4, .getfield 318, 3, 10, 48, 0, 0, [], none, [1045]),
  (7, .if_icmp .ge 31, 3, 38, 0, 0, 0, [], none, []),
  (10, .aload_n 0, 1, 0, 0, 0, 0, [], none, []),
  (11, .getfield 127, 3, 10, 49, 0, 0, [], none, [1046]),
  (14, .iload_n 3, 1, 0, 0, 0, 0, [], none, []),
  (15, .iaload, 1, 0, 0, 0, 0, [], none, []),
  (16, .iload_n 1, 1, 0, 0, 0, 0, [], none, []),
  (17, .if_icmp .ne 15, 3, 32, 0, 0, 0, [], none, []),
  (20, .aload_n 0, 1, 0, 0, 0, 0, [], none, []),
  (21, .getfield 130, 3, 10, 50, 0, 0, [], none, [1047]),
  (24, .iload_n 3, 1, 0, 0, 0, 0, [], none, []),
  (25, .iaload, 1, 0, 0, 0, 0, [], none, []),
  (26, .iload_n 2, 1, 0, 0, 0, 0, [], none, []),
  (27, .if_icmp .ne 5, 3, 32, 0, 0, 0, [], none, []),
  (30, .iload_n 3, 1, 0, 0, 0, 0, [], none, []),
  (31, .ireturn, 1, 0, 0, 0, 0, [], none, []),
  (32, .iinc 3 1, 3, 0, 0, 1, 0, [], none, []),
  (35, .goto (-33), 3, 2, 0, 0, 0, [], none, []),
  (38, .iconst (-1), 1, 0, 0, -1, 0, [], none, []),
  (39, .ireturn, 1, 0, 0, 0, 0, [], none, [])]
theorem k_Mo_oldest : zOK m_Mo_oldest P_Mo_oldest := (by decide +kernel : P_Mo_oldest.all (zchk m_Mo_oldest.1.cls m_Mo_oldest.2.1) = true)

def P_Mo_visit : List zEn := [
  (0, .aload_n 0, 1, 0, 0, 0, 0, [], none, []),
  (1, .iload_n 1, 1, 0, 0, 0, 0, [], none, []),
  (2, .invokevirtual 158, 3, 10, 1, 0, 0, [], some m_Mo_isPerson, [1175, 1177, 35, 76, 1178]),
  (5, .ifCond .eq 11, 3, 16, 0, 0, 0, [], none, []),
  (8, .aload_n 0, 1, 0, 0, 0, 0, [], none, []),
  (9, .iload_n 2, 1, 0, 0, 0, 0, [], none, []),
  (10, .invokevirtual 158, 3, 10, 1, 0, 0, [], some m_Mo_isPerson, [1175, 1177, 35, 76, 1178]),
  (13, .ifCond .ne 5, 3, 18, 0, 0, 0, [], none, []),
  (16, .iconst (-1), 1, 0, 0, -1, 0, [], none, []),
  (17, .ireturn, 1, 0, 0, 0, 0, [], none, []),
  (18, .iload_n 1, 1, 0, 0, 0, 0, [], none, []),
  (19, .iload_n 2, 1, 0, 0, 0, 0, [], none, []),
  (20, .if_icmp .eq 15, 3, 35, 0, 0, 0, [], none, []),
  (23, .iload_n 3, 1, 0, 0, 0, 0, [], none, []),
  (24, .i2l, 1, 0, 0, 0, 0, [], none, []),
  (25, .lconst 0, 1, 0, 0, 0, 0, [], none, []),
  (26, .ldc2_w 165, 3, 0, 0, 0, 9999, [], none, [1181]),
  (29, .invokestatic 148, 3, 0, 3, 0, 0, [], some m_Mo_isIn, [1163, 1164, 76, 1165]),
  (32, .ifCond .ne 6, 3, 38, 0, 0, 0, [], none, []),
  (35, .bipush (-2), 2, 0, 0, -2, 0, [], none, []),
  (37, .ireturn, 1, 0, 0, 0, 0, [], none, []),
  (38, .aload_n 0, 1, 0, 0, 0, 0, [], none, []),
  (39, .iload_n 1, 1, 0, 0, 0, 0, [], none, []),
  (40, .iload_n 2, 1, 0, 0, 0, 0, [], none, []),
  (41, .invokevirtual 321, 3, 10, 2, 0, 0, [], some m_Mo_oldest, [1422, 1424, 63, 76, 1425]),
  (44, .istore 4, 2, 0, 0, 0, 0, [], none, []),
  (46, .iload 4, 2, 0, 0, 0, 0, [], none, []),
  (48, .iconst (-1), 1, 0, 0, -1, 0, [], none, []),
  (49, .if_icmp .eq 11, 3, 60, 0, 0, 0, [], none, []),
  (52, .aload_n 0, 1, 0, 0, 0, 0, [], none, []),
  (53, .iload 4, 2, 0, 0, 0, 0, [], none, []),
  (55, .invokevirtual 324, 3, 10, 1, 0, 0, [], some m_Mo_forget, [1426, 1428, 64, 76, 1429]),
  (58, .iconst 1, 1, 0, 0, 1, 0, [], none, []),
  (59, .ireturn, 1, 0, 0, 0, 0, [], none, []),
  (60, .aload_n 0, 1, 0, 0, 0, 0, [], none, []),
  (61, .getfield 318, 3, 10, 48, 0, 0, [], none, [1045]),
  (64, .bipush 40, 2, 0, 0, 40, 0, [], none, []),
  (66, .if_icmp .ne 6, 3, 72, 0, 0, 0, [], none, []),
  (69, .bipush (-4), 2, 0, 0, -4, 0, [], none, []),
  (71, .ireturn, 1, 0, 0, 0, 0, [], none, []),
  (72, .aload_n 0, 1, 0, 0, 0, 0, [], none, []),
  (73, .getfield 127, 3, 10, 49, 0, 0, [], none, [1046]),
  (76, .aload_n 0, 1, 0, 0, 0, 0, [], none, []),
  (77, .getfield 318, 3, 10, 48, 0, 0, [], none, [1045]),
  (80, .iload_n 2, 1, 0, 0, 0, 0, [], none, []),
  (81, .iastore, 1, 0, 0, 0, 0, [], none, []),
  (82, .aload_n 0, 1, 0, 0, 0, 0, [], none, []),
  (83, .getfield 130, 3, 10, 50, 0, 0, [], none, [1047]),
  (86, .aload_n 0, 1, 0, 0, 0, 0, [], none, []),
  (87, .getfield 318, 3, 10, 48, 0, 0, [], none, [1045]),
  (90, .iload_n 1, 1, 0, 0, 0, 0, [], none, []),
  (91, .iastore, 1, 0, 0, 0, 0, [], none, []),
  (92, .aload_n 0, 1, 0, 0, 0, 0, [], none, []),
  (93, .getfield 133, 3, 10, 51, 0, 0, [], none, [1048]),
  (96, .aload_n 0, 1, 0, 0, 0, 0, [], none, []),
  (97, .getfield 318, 3, 10, 48, 0, 0, [], none, [1045]),
  (100, .iload_n 3, 1, 0, 0, 0, 0, [], none, []),
  (101, .iastore, 1, 0, 0, 0, 0, [], none, []),
  (102, .aload_n 0, 1, 0, 0, 0, 0, [], none, []),
  (103, .dup, 1, 0, 0, 0, 0, [], none, []),
  (104, .getfield 318, 3, 10, 48, 0, 0, [], none, [1045]),
  (107, .iconst 1, 1, 0, 0, 1, 0, [], none, []),
  (108, .iadd, 1, 0, 0, 0, 0, [], none, []),
  (109, .putfield 318, 3, 10, 48, 0, 0, [], none, [1045]),
  (112, .iconst 0, 1, 0, 0, 0, 0, [], none, []),
  (113, .ireturn, 1, 0, 0, 0, 0, [], none, [])]
theorem k_Mo_visit : zOK m_Mo_visit P_Mo_visit := (by decide +kernel : P_Mo_visit.all (zchk m_Mo_visit.1.cls m_Mo_visit.2.1) = true)

def P_Mo_card : List zEn := [
  (0, .aload_n 0, 1, 0, 0, 0, 0, [], none, []),
  (1, .iload_n 1, 1, 0, 0, 0, 0, [], none, []),
  (2, .invokevirtual 158, 3, 10, 1, 0, 0, [], some m_Mo_isPerson, [1175, 1177, 35, 76, 1178]),
  (5, .ifCond .eq 11, 3, 16, 0, 0, 0, [], none, []),
  (8, .aload_n 0, 1, 0, 0, 0, 0, [], none, []),
  (9, .iload_n 2, 1, 0, 0, 0, 0, [], none, []),
  (10, .invokevirtual 158, 3, 10, 1, 0, 0, [], some m_Mo_isPerson, [1175, 1177, 35, 76, 1178]),
  (13, .ifCond .ne 5, 3, 18, 0, 0, 0, [], none, []),
  (16, .iconst (-1), 1, 0, 0, -1, 0, [], none, []),
  (17, .ireturn, 1, 0, 0, 0, 0, [], none, []),
  (18, .iconst 0, 1, 0, 0, 0, 0, [], none, []),
  (19, .istore_n 3, 1, 0, 0, 0, 0, [], none, []),
  (20, .aload_n 0, 1, 0, 0, 0, 0, [], none, []),
  (21, .iload_n 1, 1, 0, 0, 0, 0, [], none, []),
  (22, .iload_n 2, 1, 0, 0, 0, 0, [], none, []),
  (23, .invokevirtual 321, 3, 10, 2, 0, 0, [], some m_Mo_oldest, [1422, 1424, 63, 76, 1425]),
  (26, .iconst (-1), 1, 0, 0, -1, 0, [], none, []),
  (27, .if_icmp .eq 19, 3, 46, 0, 0, 0, [], none, []),
  (30, .aload_n 0, 1, 0, 0, 0, 0, [], none, []),
  (31, .aload_n 0, 1, 0, 0, 0, 0, [], none, []),
  (32, .iload_n 1, 1, 0, 0, 0, 0, [], none, []),
  (33, .iload_n 2, 1, 0, 0, 0, 0, [], none, []),
  (34, .invokevirtual 321, 3, 10, 2, 0, 0, [], some m_Mo_oldest, [1422, 1424, 63, 76, 1425]),
  (37, .invokevirtual 324, 3, 10, 1, 0, 0, [], some m_Mo_forget, [1426, 1428, 64, 76, 1429]),
  (40, .iinc 3 1, 3, 0, 0, 1, 0, [], none, []),
  (43, .goto (-23), 3, 20, 0, 0, 0, [], none, []),
  (46, .iload_n 3, 1, 0, 0, 0, 0, [], none, []),
  (47, .ireturn, 1, 0, 0, 0, 0, [], none, [])]
theorem k_Mo_card : zOK m_Mo_card P_Mo_card := (by decide +kernel : P_Mo_card.all (zchk m_Mo_card.1.cls m_Mo_card.2.1) = true)

def P_Mo_owes : List zEn := [
  (0, .aload_n 0, 1, 0, 0, 0, 0, [], none, []),
  (1, .iload_n 1, 1, 0, 0, 0, 0, [], none, []),
  (2, .invokevirtual 158, 3, 10, 1, 0, 0, [], some m_Mo_isPerson, [1175, 1177, 35, 76, 1178]),
  (5, .ifCond .eq 7, 3, 12, 0, 0, 0, [], none, []),
  (8, .iload_n 2, 1, 0, 0, 0, 0, [], none, []),
  (9, .ifCond .ge 5, 3, 14, 0, 0, 0, [], none, []),
  (12, .iconst (-1), 1, 0, 0, -1, 0, [], none, []),
  (13, .ireturn, 1, 0, 0, 0, 0, [], none, []),
  (14, .iload_n 2, 1, 0, 0, 0, 0, [], none, []),
  (15, .istore 4, 2, 0, 0, 0, 0, [], none, []),
  (17, .iconst 0, 1, 0, 0, 0, 0, [], none, []),
  (18, .istore 5, 2, 0, 0, 0, 0, [], none, []),
  (20, .iload 5, 2, 0, 0, 0, 0, [], none, []),
  (22, .aload_n 0, 1, 0, 0, 0, 0, [], none, []),
  (23, .getfield 318, 3, 10, 48, 0, 0, [], none, [1045]),
  (26, .if_icmp .ge 61, 3, 87, 0, 0, 0, [], none, []),
  (29, .aload_n 0, 1, 0, 0, 0, 0, [], none, []),
  (30, .getfield 127, 3, 10, 49, 0, 0, [], none, [1046]),
  (33, .iload 5, 2, 0, 0, 0, 0, [], none, []),
  (35, .iaload, 1, 0, 0, 0, 0, [], none, []),
  (36, .iload_n 1, 1, 0, 0, 0, 0, [], none, []),
  (37, .if_icmp .ne 44, 3, 81, 0, 0, 0, [], none, []),
  (40, .iload 4, 2, 0, 0, 0, 0, [], none, []),
  (42, .ifCond .ne 36, 3, 78, 0, 0, 0, [], none, []),
  (45, .bipush 100, 2, 0, 0, 100, 0, [], none, []),
  (47, .aload_n 0, 1, 0, 0, 0, 0, [], none, []),
  (48, .getfield 130, 3, 10, 50, 0, 0, [], none, [1047]),
  (51, .iload 5, 2, 0, 0, 0, 0, [], none, []),
  (53, .iaload, 1, 0, 0, 0, 0, [], none, []),
  (54, .imul, 1, 0, 0, 0, 0, [], none, []),
  (55, .iload_n 3, 1, 0, 0, 0, 0, [], none, []),
  (56, .aload_n 0, 1, 0, 0, 0, 0, [], none, []),
  (57, .getfield 133, 3, 10, 51, 0, 0, [], none, [1048]),
  (60, .iload 5, 2, 0, 0, 0, 0, [], none, []),
  (62, .iaload, 1, 0, 0, 0, 0, [], none, []),
  (63, .aload_n 0, 1, 0, 0, 0, 0, [], none, []),
  (64, .getfield 136, 3, 10, 52, 0, 0, [], none, [1049]),
  (67, .iadd, 1, 0, 0, 0, 0, [], none, []),
  (68, .if_icmp .le 7, 3, 75, 0, 0, 0, [], none, []),
  (71, .iconst 1, 1, 0, 0, 1, 0, [], none, []),
  (72, .goto 4, 3, 76, 0, 0, 0, [], none, []),
  (75, .iconst 0, 1, 0, 0, 0, 0, [], none, []),
  (76, .iadd, 1, 0, 0, 0, 0, [], none, []),
  (77, .ireturn, 1, 0, 0, 0, 0, [], none, []),
  (78, .iinc 4 (-1), 3, 0, 0, -1, 0, [], none, []),
  (81, .iinc 5 1, 3, 0, 0, 1, 0, [], none, []),
  (84, .goto (-64), 3, 20, 0, 0, 0, [], none, []),
  (87, .iconst (-1), 1, 0, 0, -1, 0, [], none, []),
  (88, .ireturn, 1, 0, 0, 0, 0, [], none, [])]
theorem k_Mo_owes : zOK m_Mo_owes P_Mo_owes := (by decide +kernel : P_Mo_owes.all (zchk m_Mo_owes.1.cls m_Mo_owes.2.1) = true)

def P_Mo_within : List zEn := [
  (0, .iload_n 1, 1, 0, 0, 0, 0, [], none, []),
  (1, .i2l, 1, 0, 0, 0, 0, [], none, []),
  (2, .lconst 1, 1, 0, 0, 0, 1, [], none, []),
  (3, .ldc2_w 146, 3, 0, 0, 0, 99, [], none, [1162]),
  (6, .invokestatic 148, 3, 0, 3, 0, 0, [], some m_Mo_isIn, [1163, 1164, 76, 1165]),
  (9, .ifCond .ne 6, 3, 15, 0, 0, 0, [], none, []),
  (12, .bipush (-2), 2, 0, 0, -2, 0, [], none, []),
  (14, .ireturn, 1, 0, 0, 0, 0, [], none, []),
  (15, .aload_n 0, 1, 0, 0, 0, 0, [], none, []),
  (16, .getfield 136, 3, 10, 52, 0, 0, [], none, [1049]),
  (19, .istore_n 2, 1, 0, 0, 0, 0, [], none, []),
  (20, .aload_n 0, 1, 0, 0, 0, 0, [], none, []),
  (21, .iload_n 1, 1, 0, 0, 0, 0, [], none, []),
  (22, .putfield 136, 3, 10, 52, 0, 0, [], none, [1049]),
  (25, .iload_n 2, 1, 0, 0, 0, 0, [], none, []),
  (26, .ireturn, 1, 0, 0, 0, 0, [], none, [])]
theorem k_Mo_within : zOK m_Mo_within P_Mo_within := (by decide +kernel : P_Mo_within.all (zchk m_Mo_within.1.cls m_Mo_within.2.1) = true)

def P_Mo_count : List zEn := [
  (0, .iload_n 1, 1, 0, 0, 0, 0, [], none, []),
  (1, .tableswitch 119 0 7 #[47, 52, 57, 62, 67, 72, 77, 82], 47, 120, 0, 0, 0, [(0, 48), (1, 53), (2, 58), (3, 63), (4, 68), (5, 73), (6, 78), (7, 83)], none, []),
  (48, .aload_n 0, 1, 0, 0, 0, 0, [], none, []),
  (49, .getfield 143, 3, 10, 0, 0, 0, [], none, [997]),
  (52, .ireturn, 1, 0, 0, 0, 0, [], none, []),
  (53, .aload_n 0, 1, 0, 0, 0, 0, [], none, []),
  (54, .getfield 140, 3, 10, 5, 0, 0, [], none, [1002]),
  (57, .ireturn, 1, 0, 0, 0, 0, [], none, []),
  (58, .aload_n 0, 1, 0, 0, 0, 0, [], none, []),
  (59, .getfield 226, 3, 10, 15, 0, 0, [], none, [1012]),
  (62, .ireturn, 1, 0, 0, 0, 0, [], none, []),
  (63, .aload_n 0, 1, 0, 0, 0, 0, [], none, []),
  (64, .getfield 247, 3, 10, 33, 0, 0, [], none, [1030]),
  (67, .ireturn, 1, 0, 0, 0, 0, [], none, []),
  (68, .aload_n 0, 1, 0, 0, 0, 0, [], none, []),
  (69, .getfield 281, 3, 10, 42, 0, 0, [], none, [1039]),
  (72, .ireturn, 1, 0, 0, 0, 0, [], none, []),
  (73, .aload_n 0, 1, 0, 0, 0, 0, [], none, []),
  (74, .getfield 318, 3, 10, 48, 0, 0, [], none, [1045]),
  (77, .ireturn, 1, 0, 0, 0, 0, [], none, []),
  (78, .aload_n 0, 1, 0, 0, 0, 0, [], none, []),
  (79, .getfield 186, 3, 10, 14, 0, 0, [], none, [1011]),
  (82, .ireturn, 1, 0, 0, 0, 0, [], none, []),
  (83, .iconst 0, 1, 0, 0, 0, 0, [], none, []),
  (84, .istore_n 2, 1, 0, 0, 0, 0, [], none, []),
  (85, .iconst 0, 1, 0, 0, 0, 0, [], none, []),
  (86, .istore_n 3, 1, 0, 0, 0, 0, [], none, []),
  (87, .iload_n 3, 1, 0, 0, 0, 0, [], none, []),
  (88, .aload_n 0, 1, 0, 0, 0, 0, [], none, []),
  (89, .getfield 140, 3, 10, 5, 0, 0, [], none, [1002]),
  (92, .if_icmp .ge 26, 3, 118, 0, 0, 0, [], none, []),
  (95, .iload_n 2, 1, 0, 0, 0, 0, [], none, []),
  (96, .aload_n 0, 1, 0, 0, 0, 0, [], none, []),
  (97, .getfield 41, 3, 10, 12, 0, 0, [], none, [1009]),
  (100, .iload_n 3, 1, 0, 0, 0, 0, [], none, []),
  (101, .baload, 1, 0, 0, 0, 0, [], none, []),
  (102, .ifCond .eq 7, 3, 109, 0, 0, 0, [], none, []),
  (105, .iconst 1, 1, 0, 0, 1, 0, [], none, []),
  (106, .goto 4, 3, 110, 0, 0, 0, [], none, []),
  (109, .iconst 0, 1, 0, 0, 0, 0, [], none, []),
  (110, .iadd, 1, 0, 0, 0, 0, [], none, []),
  (111, .istore_n 2, 1, 0, 0, 0, 0, [], none, []),
  (112, .iinc 3 1, 3, 0, 0, 1, 0, [], none, []),
  (115, .goto (-28), 3, 87, 0, 0, 0, [], none, []),
  (118, .iload_n 2, 1, 0, 0, 0, 0, [], none, []),
  (119, .ireturn, 1, 0, 0, 0, 0, [], none, []),
  (120, .iconst (-1), 1, 0, 0, -1, 0, [], none, []),
  (121, .ireturn, 1, 0, 0, 0, 0, [], none, [])]
theorem k_Mo_count : zOK m_Mo_count P_Mo_count := (by decide +kernel : P_Mo_count.all (zchk m_Mo_count.1.cls m_Mo_count.2.1) = true)
end
section
/-! SOUNDNESS of the instructions -/
theorem zwd_in {h : List Nat} {k : Nat} {w : Cond} (e : zwd h k w = true) : w ∈ lw_tbl := by
  unfold zwd at e
  split at e
  · exact List.mem_of_getElem? (of_decide_eq_true e)
  · cases e
theorem zT_of {h : List Nat} {k : Nat} {w : Cond} (e : zwd h k w = true) (g : goodWord w = true) : w ∈ zT := List.mem_filter.mpr ⟨zwd_in e, g⟩
theorem zT_good : GoodIn zT zT := fun w hw => ⟨hw, good_of_word (List.mem_filter.mp hw).2⟩
theorem zRfa {f cnt kd len : Nat} {g} (h : zTab[f]? = some (cnt, .inr (.inr (kd, len, g)))) : kd = 4 ∨ kd = 5 ∨ kd = 6 := by
  have h1 : zTab.all (fun e => match e.2 with
    | .inr (.inr q) => decide (q.1 = 4 ∨ q.1 = 5 ∨ q.1 = 6)
    | _ => true) = true := by decide +kernel
  have h2 := List.all_eq_true.mp h1 _ (List.mem_of_getElem? h)
  simpa using h2
theorem zRmov {X : zX} {μ : zMu} {u U : State} {H : Heap} (hv : u.vm.Alike U.vm) (h : zRep X μ u H) : zRep X μ U H := ⟨va_K.moved hv h.1, h.2⟩
theorem zSmov {X : zX} {u U : State} {locs : List Loc} (hv : u.vm.Alike U.vm) (hw : ∀ (own tx : String) (k a : Nat), vk_R own k tx a u → vk_R own k tx a U) (hS : va_S (zA X) u.heap U.heap locs) (h : zSt X u) : zSt X U := by
  obtain ⟨h1, h2, h3, h4, h5, h6, h7, h8⟩ := h
  refine ⟨vk_S.moved hv (h1.kept hS.2.1), fun i q hq => hw _ _ _ _ (h2 i q hq), va_Z.moved hv (h3.kept hS.2.1), va_X.moved hv (h4.kept (hS.2.1 _ h5 h6)), Nat.lt_of_lt_of_le h5 hS.1, h6, Nat.le_trans h7 hS.1, va_Zq.moved hv (h8.kept hS.2.1)⟩
def zfv (X : zX) (μ : zMu) (f n b : Nat) (o : Option (Nat → zN)) : Value := match o with
  | none => Value.int (μ f n b)
  | some g => Value.ref (X.1 (g n).1 (g n).2)
section ZS
variable {X : zX} {p : Program} {l : Launch} {e : Env} {R : Room} {s : State} {m : MethodId} {args : Array Value} {below : List Frame} {meth : Method} {c : Code} {cells slots : Nat} {Q : State → Prop}
variable {own : String} {cc : ByteArray} {nL d : Nat} {rt : Option FieldType} {H : Heap} {locs : List Loc} {la : Array Slot} {μ : zMu} {pc : Nat} {rest : List Value}
def zCx (X : zX) (p : Program) (R : Room) (s : State) (m : MethodId) (args : Array Value) (meth : Method) (c : Code) (cells slots : Nat) (own : String) (cc : ByteArray) (nL d : Nat) (rt : Option FieldType) : Prop :=
  p.tables.exec = Jvm.exec ∧ c.code = cc ∧ c.maxLocals = nL ∧ s.vm.findClass own = some m.cls ∧ (∀ w ∈ zT, w.before args s = true) ∧ meth.sig.returnType = rt ∧ meth.locks = false ∧ zSt X s ∧ d + 1 ≤ R.frames ∧ 100 * (d + 1) ≤ R.locals ∧ cells ≤ R.cells ∧ slots ≤ R.slots
theorem zs_get (C : zCx X p R s m args meth c cells slots own cc nL d rt) (hR : zRep X μ s H) {f n b cnt ci i N : Nat} {Cn : String} {T : u_T} {fs : List (Option (Nat → zN))} {o : Option (Nat → zN)} (ht : zTab[f]? = some (cnt, .inl (ci, fs))) (hn : n < cnt) (hcl : zcl[ci]? = some (Cn, T, N)) (hbN : b < N) (hw : Cond.fieldLink own i (T b).1 (T b).2.1 (T b).2.2.1 ∈ zT) (hf : fs[b]? = some o) (hdg : decode cc pc = .ok (.getfield i, 3))
    (kk : W p l e R s m args below meth c H locs cells slots Q (F0 m (pc + 3) la (zfv X μ f n b o :: rest))) : W p l e R s m args below meth c H locs cells slots Q (F0 m pc la (.ref (X.1 f n) :: rest)) := by
  obtain ⟨hx, hb, hml, hown, hts, hr, hlocks, hst, -⟩ := C
  obtain ⟨hK, hP, hD⟩ := hR
  obtain ⟨k, hk⟩ := List.getElem?_of_mem (zAll_mem ht hn)
  have he := zWs_at (X := X) (μ := μ) hk
  rw [zE_obj ht] at he
  refine va_get hx hb hts (zlay hcl).1 hown hK hP k he hcl b hbN (hts _ hw) (fun _ h => h) ?_ hdg kk
  rw [List.getElem?_mapIdx, hf]
  cases o <;> rfl
theorem zs_put (C : zCx X p R s m args meth c cells slots own cc nL d rt) (hR : zRep X μ s H) (hS : va_S (zA X) s.heap H locs) {f n b cnt ci i N : Nat} {Cn : String} {T : u_T} {fs : List (Option (Nat → zN))} {x : Int32} (ht : zTab[f]? = some (cnt, .inl (ci, fs))) (hn : n < cnt) (hcl : zcl[ci]? = some (Cn, T, N)) (hbN : b < N) (hw : Cond.fieldLink own i (T b).1 (T b).2.1 (T b).2.2.1 ∈ zT) (hfin : (T b).2.2.2 = false) (hf : fs[b]? = some none) (hty : zty ci b = .int ∨ (zty ci b = .boolean ∧ (x = 0 ∨ x = 1))) (hdg : decode cc pc = .ok (.putfield i, 3))
    (kk : ∀ (H1 : Heap) (locs1 : List Loc), zRep X (zu μ f n b x) s H1 → va_S (zA X) s.heap H1 locs1 → W p l e R s m args below meth c H1 locs1 cells slots Q (F0 m (pc + 3) la rest)) : W p l e R s m args below meth c H locs cells slots Q (F0 m pc la (.int x :: .ref (X.1 f n) :: rest)) := by
  obtain ⟨hx, hb, hml, hown, hts, hr, hlocks, hst, -⟩ := C
  obtain ⟨hK, hP, hD⟩ := hR
  obtain ⟨k, hk⟩ := List.getElem?_of_mem (zAll_mem ht hn)
  have he := zWs_at (X := X) (μ := μ) hk
  rw [zE_obj ht] at he
  have hse := zWs_set (X := X) (μ := μ) (μ' := zu μ f n b x) hk (zE_put ht hf) (fun n' hn' => zE_zu_ne n' hn')
  have hfit : narrow (zty ci b) (.int x) = .int x ∧ fits (zty ci b) (.int x) = true := by
    rcases hty with h | ⟨h, h2⟩
    · rw [h]; exact ⟨rfl, rfl⟩
    · rw [h]
      rcases h2 with rfl | rfl <;> exact ⟨rfl, rfl⟩
  refine va_put hx hb hts (zlay hcl).1 (zty ci) (zlay hcl).2.1 (zlay hcl).2.2 hown hK hP hD hS k he hcl b hbN (hts _ hw) (fun _ h => h) hfin ((zlay hcl).2.1 b hbN) hfit.1 hfit.2 ?_ hdg (fun H1 locs1 hP1 hD1 hS1 => ?_)
  · simpa using (List.getElem?_eq_some_iff.mp hf).1
  · rw [hse] at hP1 hD1
    exact kk H1 locs1 ⟨hK, hP1, hD1⟩ hS1
theorem zar_of {f i kd len : Nat} (h : zar f i = some (kd, len)) : ∃ cnt, zTab[f]? = some (cnt, .inr (.inl (kd, len))) ∧ i < cnt := by
  unfold zar at h
  split at h
  · rename_i cnt kd' len' ht
    split at h
    · rename_i hc
      cases h
      exact ⟨cnt, ht, hc⟩
    · cases h
  · cases h
theorem zam_zar {f i cnt kd len : Nat} (h : zam f = some (cnt, kd, len)) (hi : i < cnt) : zar f i = some (kd, len) := by
  unfold zam at h
  unfold zar
  split at h
  · cases h
    exact if_pos hi
  · cases h
theorem zar_at {f i kd len : Nat} (h : zar f i = some (kd, len)) : ∃ k : Nat, zAll[k]? = some (f, i) ∧ (zWs X μ)[k]? = some (X.1 f i, (Sum.inl (X.2.2.1 kd, len, Sum.inl (μ f i)) : va_E)) := by
  obtain ⟨cnt, ht, hi⟩ := zar_of h
  obtain ⟨k, hk⟩ := List.getElem?_of_mem (zAll_mem ht hi)
  refine ⟨k, hk, ?_⟩
  rw [zWs_at hk, zE_arr ht]
theorem zar_set {f i kd len j : Nat} {x : Int32} {k : Nat} (h : zar f i = some (kd, len)) (hk : zAll[k]? = some (f, i)) : (zWs X μ).set k (X.1 f i, .inl (X.2.2.1 kd, len, .inl (upd (μ f i) j x))) = zWs X (zu μ f i j x) := by
  obtain ⟨cnt, ht, hi⟩ := zar_of h
  exact zWs_set hk (zE_sto ht) (fun n' hn' => zE_zu_ne n' hn')
theorem zs_aald (C : zCx X p R s m args meth c cells slots own cc nL d rt) (hR : zRep X μ s H) {f n cnt kd len : Nat} {g : Nat → Nat → zN} {j : Int32} (ht : zTab[f]? = some (cnt, .inr (.inr (kd, len, g)))) (hn : n < cnt) (hin : vp_in j len) (hdg : decode cc pc = .ok (.aaload, 1))
    (kk : W p l e R s m args below meth c H locs cells slots Q (F0 m (pc + 1) la (.ref (X.1 (g n j.toNatClampNeg).1 (g n j.toNatClampNeg).2) :: rest))) : W p l e R s m args below meth c H locs cells slots Q (F0 m pc la (.int j :: .ref (X.1 f n) :: rest)) := by
  obtain ⟨hx, hb, hml, hown, hts, hr, hlocks, hst, -⟩ := C
  obtain ⟨hK, hP, hD⟩ := hR
  obtain ⟨k, hk⟩ := List.getElem?_of_mem (zAll_mem ht hn)
  have he := zWs_at (X := X) (μ := μ) hk
  rw [zE_rfa ht] at he
  have hc : H[X.1 f n]? = some (arrV (X.2.2.1 kd) len (fun q => Value.ref (X.1 (g n q).1 (g n q).2))) := hP k _ he
  have hty : ∃ ty, (ztys X)[kd]? = some (X.2.2.1 kd, ty) ∧ ty.isReference = true := by
    rcases zRfa ht with rfl | rfl | rfl
    · exact ⟨_, rfl, rfl⟩
    · exact ⟨_, rfl, rfl⟩
    · exact ⟨_, rfl, rfl⟩
  obtain ⟨ty, hty1, hty2⟩ := hty
  have hj : j.toNatClampNeg < len := by
    have := hin
    unfold vp_in at this
    omega
  have hsz : (arrV (X.2.2.1 kd) len (fun q => Value.ref (X.1 (g n q).1 (g n q).2))).slots.size = len := by simp [arrV]
  refine W.aald hx hb hc ((hK.2 kd _ hty1).1 _ _) hty2 (by simp [arrV]) (by rw [hsz]; exact hin) (v := .ref (X.1 (g n j.toNatClampNeg).1 (g n j.toNatClampNeg).2)) ?_ rfl rfl hdg kk
  simp [arrV, hj]
/-- behind a call -/
theorem zs_back {as : List zV} {a : Array Value} {st0 : List Value} {r : List zV} {K : Option zV → zMu → Prop} (hr : va_Run p l e R s m args below meth c H locs cells slots 0 0 (F0 m pc la st0) (r.map (ztr X)) (zQc X K a) (zA X)) (hS : va_S (zA X) s.heap H locs)
    (kk : ∀ (q : Option zV) (μ' : zMu) (H1 : Heap) (locs1 : List Loc), K q μ' → zRep X μ' s H1 → va_S (zA X) s.heap H1 locs1 → W p l e R s m args below meth c H1 locs1 cells slots Q (F0 m (pc + 3) la ((zpush q r).map (ztr X)))) : W p l e R s m args below meth c H locs cells slots Q (F0 m pc la st0) := by
  intro T hT Z
  obtain ⟨v, st₀, t, T', L, h0, Z', hL, e1, e2, ⟨⟨q, μ', hv, hk, hrep⟩, hz, hkeep⟩, st⟩ := hr T hT Z
  rw [h0] at hz hkeep
  have hal : s.vm.Alike t.vm := by rw [← e2]; exact Z'.warmed.alike
  have hrep' : zRep X μ' s T'.heap := by rw [e1]; exact zRmov hal.symm hrep
  have hS' : va_S (zA X) s.heap T'.heap (locs ++ L) := ⟨Nat.le_trans hS.1 (by rw [e1]; exact hz), fun a h1 h2 => by rw [e1, hkeep a (Nat.lt_of_lt_of_le h1 hS.1) h2]; exact hS.2.1 a h1 h2, fun a ha => by
    rcases List.mem_append.mp ha with h | h
    · exact hS.2.2 a h
    · exact hL a h⟩
  obtain ⟨t2, a1, b1⟩ := kk q μ' T'.heap (locs ++ L) hk hrep' hS' T' rfl Z'
  refine ⟨t2, st t2 ?_, b1⟩
  have hv' : v = q.map (ztr X) := by
    cases hv
    rfl
  rw [hv']
  cases q with
  | none => exact a1
  | some w => exact a1
theorem zcat_sum (r : List zV) : ((r.map (ztr X)).map fun v => v.category).sum = (r.map zcat).sum := by
  rw [List.map_map]
  congr 1
  apply List.map_congr_left
  intro v _
  match v with
  | .inl x => rfl
  | .inr (.inl x) => rfl
  | .inr (.inr n) => rfl
theorem zPc_blind {as : List zV} : FrameBlind (zPc X as μ) := by
  intro a U g mk h
  obtain ⟨h1, h2, h3⟩ := h
  exact ⟨h1, zSmov (locs := []) (U := U.calling g mk a) (Vm.Alike.refl U.vm) (fun _ _ _ _ h => vk_R.same rfl h) ⟨Nat.le_refl _, fun _ _ _ => rfl, fun _ h => by cases h⟩ h2, zRmov (U := U.calling g mk a) (Vm.Alike.refl U.vm) h3⟩
theorem zPc_at {as : List zV} {U : State} (hst : zSt X s) (hR : zRep X μ s H) (hS : va_S (zA X) s.heap H locs) (hU : U.heap = H) (hW : s.WarmedH U.vm) : zPc X as μ (as.map (ztr X)).toArray U := by
  subst hU
  exact ⟨rfl, zSmov hW.alike (fun _ _ _ _ h => vk_R.warm hW h) hS hst, zRmov hW.alike hR⟩
theorem zGood {M : zMth} {ws : List Cond} (hc : Cond.code M.1 M.2.1 M.2.2.1 M.2.2.2 ∈ zT) (h : ∀ w ∈ ws, w ∈ zT) : GoodIn zT (ws ++ zws M) := by
  intro w hw
  rcases List.mem_append.mp hw with hw | hw
  · exact zT_good w (h w hw)
  · rcases List.mem_cons.mp hw with rfl | hw
    · exact zT_good _ hc
    · exact zT_good w hw
theorem zs_virt (C : zCx X p R s m args meth c cells slots own cc nL d rt) (hR : zRep X μ s H) (hS : va_S (zA X) s.heap H locs) {ls : List (Option zV)} (hl : zLv X nL ls la) {f i idx : Nat} {M : zMth} {as r : List zV} {K : Option zV → zMu → Prop} (hrc : ∃ cellB : Cell, H[X.1 f i]? = some cellB ∧ cellB.vm.isStatics = false ∧ s.vm.findClass M.1.cls = some cellB.cls)
    (h0 : Cond.methodLink own idx M.1 ∈ zT) (h1 : Cond.instanceMethod M.1 ∈ zT) (h2 : Cond.selects M.1.cls M.1 M.1 ∈ zT) (h3 : Cond.initialized M.1.cls ∈ zT) (h4 : Cond.code M.1 M.2.1 M.2.2.1 M.2.2.2 ∈ zT) (hd : M.1.cls ≠ "java/lang/invoke/MethodHandle" ∧ M.1.cls ≠ "java/lang/invoke/VarHandle" ∧ (parseMethodDescriptor M.1.desc).map (fun d => d.parameters.length) = some as.length) (hmL : M.2.2.1 ≤ 40) (hsum : (r.map zcat).sum ≤ 8) (hc : zCa d M (.inr (.inr (f, i)) :: as) μ K) (hdg : decode cc pc = .ok (.invokevirtual idx, 3))
    (kk : ∀ (q : Option zV) (μ' : zMu) (H1 : Heap) (locs1 : List Loc), K q μ' → zRep X μ' s H1 → va_S (zA X) s.heap H1 locs1 → W p l e R s m args below meth c H1 locs1 cells slots Q (F0 m (pc + 3) la ((zpush q r).map (ztr X)))) : W p l e R s m args below meth c H locs cells slots Q (F0 m pc la ((as.map (ztr X)).reverse ++ .ref (X.1 f i) :: r.map (ztr X))) := by
  obtain ⟨hx, hb, hml, hown, hts, hr, hlocks, hst, hfr, hlo, hce, hsl⟩ := C
  cases d with
  | zero => exact hc.elim
  | succ d =>
    have hM := Ct_iff.mp hc l X
    refine zs_back (as := as) (va_runV (As := as.map (ztr X)) (rest := r.map (ztr X)) (nL := nL) (bytes := M.2.1) (maxL := M.2.2.1) (ret := M.2.2.2) (C := M.1.cls) (own := own) (index := idx) (n := as.length) ⟨hx, hb, hml, hown, hts⟩ hM (cwV as.length hts (zGood h4 (fun w hw => by
      simp only [List.mem_cons, List.not_mem_nil, or_false] at hw
      rcases hw with rfl | rfl | rfl | rfl
      · exact h0
      · exact h1
      · exact h2
      · exact h3)) rfl rfl rfl ⟨rfl, hd⟩ ⟨?_, ?_⟩) ⟨zPc_blind, hrc, fun U hU hW => zPc_at (as := .inr (.inr (f, i)) :: as) hst hR hS hU hW⟩ rfl (by simp) hl.2.1 rfl (lv_room (by rw [zcat_sum]; exact hsum)) hdg ⟨by simpa using hce, by simpa using hsl⟩) hS kk
    · show d + 1 + 1 ≤ R.frames
      exact hfr
    · show 8 + (M.2.2.1 + 11) + 100 * (d + 1) ≤ R.locals
      omega
theorem zs_stat (C : zCx X p R s m args meth c cells slots own cc nL d rt) (hR : zRep X μ s H) (hS : va_S (zA X) s.heap H locs) {ls : List (Option zV)} (hl : zLv X nL ls la) {idx : Nat} {M : zMth} {as r : List zV} {K : Option zV → zMu → Prop}
    (h0 : Cond.methodLink own idx M.1 ∈ zT) (h1 : Cond.static M.1 ∈ zT) (h3 : Cond.initialized M.1.cls ∈ zT) (h4 : Cond.code M.1 M.2.1 M.2.2.1 M.2.2.2 ∈ zT) (hd : M.1.cls ≠ "java/lang/invoke/MethodHandle" ∧ M.1.cls ≠ "java/lang/invoke/VarHandle" ∧ (parseMethodDescriptor M.1.desc).map (fun d => d.parameters.length) = some as.length) (hmL : M.2.2.1 ≤ 40) (hsum : (r.map zcat).sum ≤ 8) (hc : zCa d M as μ K) (hdg : decode cc pc = .ok (.invokestatic idx, 3))
    (kk : ∀ (q : Option zV) (μ' : zMu) (H1 : Heap) (locs1 : List Loc), K q μ' → zRep X μ' s H1 → va_S (zA X) s.heap H1 locs1 → W p l e R s m args below meth c H1 locs1 cells slots Q (F0 m (pc + 3) la ((zpush q r).map (ztr X)))) : W p l e R s m args below meth c H locs cells slots Q (F0 m pc la ((as.map (ztr X)).reverse ++ r.map (ztr X))) := by
  obtain ⟨hx, hb, hml, hown, hts, hr, hlocks, hst, hfr, hlo, hce, hsl⟩ := C
  cases d with
  | zero => exact hc.elim
  | succ d =>
    have hM := Ct_iff.mp hc l X
    refine zs_back (as := as) (va_runS (As := as.map (ztr X)) (rest := r.map (ztr X)) (nL := nL) (bytes := M.2.1) (maxL := M.2.2.1) (ret := M.2.2.2) (own := own) (index := idx) (n := as.length) ⟨hx, hb, hml, hown, hts⟩ hM (va_cwS as.length hts (zGood h4 (fun w hw => by
      simp only [List.mem_cons, List.not_mem_nil, or_false] at hw
      rcases hw with rfl | rfl | rfl
      · exact h0
      · exact h1
      · exact h3)) rfl rfl rfl hd ⟨?_, ?_⟩) ⟨zPc_blind, fun U hU hW => zPc_at hst hR hS hU hW⟩ rfl (by simp) hl.2.1 rfl (lv_room (by rw [zcat_sum]; exact hsum)) hdg ⟨by simpa using hce, by simpa using hsl⟩) hS kk
    · show d + 1 + 1 ≤ R.frames
      exact hfr
    · show 8 + (M.2.2.1 + 11) + 100 * (d + 1) ≤ R.locals
      omega
end ZS
end
section
/-! ONE STEP: every instruction of the layer -/
theorem zsw_of {go : Nat → Prop} {x : Int32} : ∀ {sw : List (Int × Nat)} {t : Nat}, zsw go x sw t → (∀ (j : Nat) (k : Int) (u : Nat), sw[j]? = some (k, u) → x.toInt = k → (∀ (i : Nat) (k' : Int) (u' : Nat), i < j → sw[i]? = some (k', u') → ¬ x.toInt = k') → go u) ∧ ((∀ (j : Nat) (k : Int) (u : Nat), sw[j]? = some (k, u) → ¬ x.toInt = k) → go t)
  | [], t, h => ⟨fun j k u hj => by simp at hj, fun _ => h⟩
  | (k0, t0) :: r, t, h => by
    obtain ⟨h1, h2⟩ := h
    refine ⟨fun j k u hj hx hn => ?_, fun hn => ?_⟩
    · cases j with
      | zero =>
        simp only [List.getElem?_cons_zero, Option.some.injEq, Prod.mk.injEq] at hj
        obtain ⟨rfl, rfl⟩ := hj
        exact h1 hx
      | succ j =>
        rw [List.getElem?_cons_succ] at hj
        refine (zsw_of (h2 (hn 0 k0 t0 (by omega) rfl))).1 j k u hj hx (fun i k' u' hi hk' => hn (i + 1) k' u' (by omega) (by rw [List.getElem?_cons_succ]; exact hk'))
    · exact (zsw_of (h2 (hn 0 k0 t0 rfl))).2 (fun j k u hj => hn (j + 1) k u (by rw [List.getElem?_cons_succ]; exact hj))
theorem zlook {pc : Nat} {x : Int32} {go : Nat → Prop} : ∀ (ps : List (Int × Int)) (sw : List (Int × Nat)) (df : Int) (t : Nat), sw.map (fun q => (q.1, (q.2 : Int))) = ps.map (fun q => (q.1, (pc : Int) + q.2)) → (pc : Int) + df = (t : Int) → zsw go x sw t → ∃ tgt : Nat, (pc : Int) + Op.lookupswitch.offset ps df x.toInt = (tgt : Int) ∧ go tgt
  | [], [], df, t, _, h2, h3 => ⟨t, h2, h3⟩
  | [], _ :: _, df, t, h1, _, _ => by simp at h1
  | _ :: _, [], df, t, h1, _, _ => by simp at h1
  | (k, o) :: ps, (k', u) :: sw, df, t, h1, h2, h3 => by
    simp only [List.map_cons, List.cons.injEq, Prod.mk.injEq] at h1
    obtain ⟨⟨rfl, ho⟩, hr⟩ := h1
    by_cases hx : x.toInt = k'
    · refine ⟨u, ?_, h3.1 hx⟩
      simp [Op.lookupswitch.offset, hx, ho]
    · obtain ⟨tgt, g1, g2⟩ := zlook ps sw df t hr h2 (h3.2 hx)
      refine ⟨tgt, ?_, g2⟩
      rw [← g1]
      simp [Op.lookupswitch.offset, Ne.symm hx]
theorem zPrim {X : zX} {f i kd len : Nat} (h : zar f i = some (kd, len)) : ∃ ty, (ztys X)[kd]? = some (X.2.2.1 kd, ty) := by
  obtain ⟨cnt, ht, -⟩ := zar_of h
  have h1 : zTab.all (fun e => match e.2 with
    | .inr (.inl q) => decide (q.1 = 0 ∨ q.1 = 1 ∨ q.1 = 2 ∨ q.1 = 3)
    | _ => true) = true := by decide +kernel
  have h2 := List.all_eq_true.mp h1 _ (List.mem_of_getElem? ht)
  simp only [decide_eq_true_eq] at h2
  rcases h2 with rfl | rfl | rfl | rfl
  · exact ⟨_, rfl⟩
  · exact ⟨_, rfl⟩
  · exact ⟨_, rfl⟩
  · exact ⟨_, rfl⟩
section ZC
variable {X : zX} {p : Program} {l : Launch} {e : Env} {R : Room} {s : State} {m : MethodId} {args : Array Value} {below : List Frame} {meth : Method} {c : Code} {cells slots : Nat} {Q : State → Prop}
variable {own : String} {cc : ByteArray} {nL d : Nat} {rt : Option FieldType}
def zW (X : zX) (p : Program) (l : Launch) (e : Env) (R : Room) (s : State) (m : MethodId) (args : Array Value) (below : List Frame) (meth : Method) (c : Code) (cells slots : Nat) (Q : State → Prop) (nL : Nat) (pc : Nat) (ls : List (Option zV)) (st : List zV) (μ : zMu) : Prop :=
  ∀ (H : Heap) (locs : List Loc) (la : Array Slot), zRep X μ s H → va_S (zA X) s.heap H locs → zLv X nL ls la → W p l e R s m args below meth c H locs cells slots Q (F0 m pc la (st.map (ztr X)))
set_option maxHeartbeats 4000000 in
set_option maxRecDepth 20000 in
theorem zs_core {go : Nat → List (Option zV) → List zV → zMu → Prop} {K : Option zV → zMu → Prop} {ls : List (Option zV)} {st : List zV} {μ : zMu} {en : zEn} (C : zCx X p R s m args meth c cells slots own cc nL d rt)
    (hi : ∀ (x : Int32) (μ' : zMu) (H : Heap) (locs : List Loc) (la : Array Slot) (pc : Nat), K (some (.inl x)) μ' → (rt = some .int ∨ (rt = some .boolean ∧ (x = 0 ∨ x = 1))) → zRep X μ' s H → va_S (zA X) s.heap H locs → decode cc pc = .ok (.ireturn, 1) → W p l e R s m args below meth c H locs cells slots Q (F0 m pc la [.int x]))
    (hv : ∀ (μ' : zMu) (H : Heap) (locs : List Loc) (la : Array Slot) (pc : Nat), K none μ' → rt = none → zRep X μ' s H → va_S (zA X) s.heap H locs → decode cc pc = .ok (.return_, 1) → W p l e R s m args below meth c H locs cells slots Q (F0 m pc la []))
    (hgo : ∀ (pc : Nat) (ls : List (Option zV)) (st : List zV) (μ : zMu), go pc ls st μ → zW X p l e R s m args below meth c cells slots Q nL pc ls st μ)
    (hc : zchk own cc en = true) (h : zdo X.2.2.2.2.2.1 X.2.2.2.2.2.2 rt (zCa d) K go en ls st μ) : zW X p l e R s m args below meth c cells slots Q nL en.1 ls st μ := by
  obtain ⟨pc, ins, len, a, b, cv, lv, sw, M, hh⟩ := en
  simp only [zchk, Bool.and_eq_true, decide_eq_true_eq] at hc
  obtain ⟨hdg, hlk⟩ := hc
  have C0 := C
  obtain ⟨hx, hb, hml, hown, hts, hr, hlocks, hst, hfr, hlo, hce, hsl⟩ := C
  intro H locs la hR hS hl
  have hkn : ∀ k, zok ls k = true → k < nL := fun k hk => by
    simp only [zok, Bool.and_eq_true, decide_eq_true_eq] at hk
    exact Nat.lt_of_lt_of_le hk.1 hl.1
  cases ins
  case iconst n =>
    simp only [zlink, Bool.and_eq_true, decide_eq_true_eq] at hlk
    obtain ⟨hlen, hlk⟩ := hlk
    subst hlen
    exact lv_iconst hx hb hdg hlk (hgo _ _ _ _ h H locs la hR hS hl)
  case bipush n =>
    simp only [zlink, Bool.and_eq_true, decide_eq_true_eq] at hlk
    obtain ⟨hlen, hlk⟩ := hlk
    subst hlen
    exact lv_bipush hx hb hdg hlk (hgo _ _ _ _ h H locs la hR hS hl)
  case sipush n =>
    simp only [zlink, Bool.and_eq_true, decide_eq_true_eq] at hlk
    obtain ⟨hlen, hlk⟩ := hlk
    subst hlen
    exact lv_sipush hx hb hdg hlk (hgo _ _ _ _ h H locs la hR hS hl)
  case lconst n =>
    simp only [zlink, Bool.and_eq_true, decide_eq_true_eq] at hlk
    obtain ⟨hlen, hlk⟩ := hlk
    subst hlen
    exact lv_lconst hx hb hdg hlk (hgo _ _ _ _ h H locs la hR hS hl)
  case ldc i =>
    simp only [zlink, Bool.and_eq_true, decide_eq_true_eq] at hlk
    obtain ⟨hlen, hlk⟩ := hlk
    subst hlen
    cases M with
    | none => exact lv_ldc hx hb hown (hts _ (zT_of hlk rfl)) hdg (hgo _ _ _ _ h H locs la hR hS hl)
    | some M =>
      simp only [Bool.and_eq_true, decide_eq_true_eq] at hlk
      obtain ⟨rfl, hz⟩ := hlk
      cases hz2 : zStr[a]? with
      | none => rw [hz2] at hz; cases hz
      | some q =>
        rw [hz2] at hz
        cases hz
        exact va_ldcS hx hb hown (hst.2.1 a q hz2) hdg (hgo _ _ _ _ h H locs la hR hS hl)
  case ldc_w i =>
    simp only [zlink, Bool.and_eq_true, decide_eq_true_eq] at hlk
    obtain ⟨hlen, hlk⟩ := hlk
    subst hlen
    exact lv_ldcw hx hb hown (hts _ (zT_of hlk rfl)) hdg (hgo _ _ _ _ h H locs la hR hS hl)
  case ldc2_w i =>
    simp only [zlink, Bool.and_eq_true, decide_eq_true_eq] at hlk
    obtain ⟨hlen, hlk⟩ := hlk
    subst hlen
    exact lv_ldc2 hx hb hown (hts _ (zT_of hlk rfl)) hdg (hgo _ _ _ _ h H locs la hR hS hl)
  case iload k =>
    simp only [zlink, decide_eq_true_eq] at hlk
    subst hlk
    dsimp only [zdo] at h
    split at h
    · rename_i x hq
      exact lv_iload hx hb hdg (zLv_at hl hq) (hgo _ _ _ _ h H locs la hR hS hl)
    · exact h.elim
  case iload_n k =>
    simp only [zlink, decide_eq_true_eq] at hlk
    subst hlk
    dsimp only [zdo] at h
    split at h
    · rename_i x hq
      exact lv_iload_n hx hb hdg rfl (zLv_at hl hq) (hgo _ _ _ _ h H locs la hR hS hl)
    · exact h.elim
  case lload k =>
    simp only [zlink, decide_eq_true_eq] at hlk
    subst hlk
    dsimp only [zdo] at h
    split at h
    · rename_i x hq
      exact lv_lload hx hb hdg (zLv_at hl hq) (hgo _ _ _ _ h H locs la hR hS hl)
    · exact h.elim
  case lload_n k =>
    simp only [zlink, decide_eq_true_eq] at hlk
    subst hlk
    dsimp only [zdo] at h
    split at h
    · rename_i x hq
      exact lv_lload_n hx hb hdg rfl (zLv_at hl hq) (hgo _ _ _ _ h H locs la hR hS hl)
    · exact h.elim
  case aload k =>
    simp only [zlink, decide_eq_true_eq] at hlk
    subst hlk
    dsimp only [zdo] at h
    split at h
    · rename_i x hq
      exact lv_aload hx hb hdg (zLv_at hl hq) (hgo _ _ _ _ h H locs la hR hS hl)
    · exact h.elim
  case aload_n k =>
    simp only [zlink, decide_eq_true_eq] at hlk
    subst hlk
    dsimp only [zdo] at h
    split at h
    · rename_i x hq
      exact lv_aload_n hx hb hdg rfl (zLv_at hl hq) (hgo _ _ _ _ h H locs la hR hS hl)
    · exact h.elim
  case istore k =>
    simp only [zlink, decide_eq_true_eq] at hlk
    subst hlk
    dsimp only [zdo] at h
    split at h
    · exact lv_istore hx hb hdg hl.2 (hkn _ h.1) rfl (fun ls' hl' => hgo _ _ _ _ h.2 H locs ls' hR hS (zLv_set hl h.1 rfl hl'))
    · exact h.elim
  case istore_n k =>
    simp only [zlink, decide_eq_true_eq] at hlk
    subst hlk
    dsimp only [zdo] at h
    split at h
    · exact lv_istore_n hx hb hdg rfl hl.2 (hkn _ h.1) rfl (fun ls' hl' => hgo _ _ _ _ h.2 H locs ls' hR hS (zLv_set hl h.1 rfl hl'))
    · exact h.elim
  case astore k =>
    simp only [zlink, decide_eq_true_eq] at hlk
    subst hlk
    dsimp only [zdo] at h
    split at h
    · exact lv_astore hx hb hdg hl.2 (hkn _ h.1) rfl (fun ls' hl' => hgo _ _ _ _ h.2 H locs ls' hR hS (zLv_set hl h.1 rfl hl'))
    · exact h.elim
  case astore_n k =>
    simp only [zlink, decide_eq_true_eq] at hlk
    subst hlk
    dsimp only [zdo] at h
    split at h
    · exact lv_astore_n hx hb hdg rfl hl.2 (hkn _ h.1) rfl (fun ls' hl' => hgo _ _ _ _ h.2 H locs ls' hR hS (zLv_set hl h.1 rfl hl'))
    · exact h.elim
  case iinc k n =>
    simp only [zlink, Bool.and_eq_true, decide_eq_true_eq] at hlk
    obtain ⟨hlen, hcv⟩ := hlk
    subst hlen
    dsimp only [zdo] at h
    split at h
    · rename_i x hq
      obtain ⟨j, hj⟩ := List.getElem?_of_mem ((zlv_mem (X := X) ls 0 (k, .int x)).mpr ⟨k, .inl x, hq, by rw [Nat.zero_add]; rfl⟩)
      exact lv_iinc hx hb hdg hl.2 hj (by rw [hcv]) (hkn _ h.1) rfl (fun ls' hl' => hgo _ _ _ _ h.2 H locs ls' hR hS (zLv_set hl h.1 rfl hl'))
    · exact h.elim
  case iadd =>
    simp only [zlink, decide_eq_true_eq] at hlk
    subst hlk
    dsimp only [zdo] at h
    split at h
    · exact lv_iadd hx hb hdg (hgo _ _ _ _ h H locs la hR hS hl)
    · exact h.elim
  case isub =>
    simp only [zlink, decide_eq_true_eq] at hlk
    subst hlk
    dsimp only [zdo] at h
    split at h
    · exact lv_isub hx hb hdg (hgo _ _ _ _ h H locs la hR hS hl)
    · exact h.elim
  case imul =>
    simp only [zlink, decide_eq_true_eq] at hlk
    subst hlk
    dsimp only [zdo] at h
    split at h
    · exact lv_imul hx hb hdg (hgo _ _ _ _ h H locs la hR hS hl)
    · exact h.elim
  case iand =>
    simp only [zlink, decide_eq_true_eq] at hlk
    subst hlk
    dsimp only [zdo] at h
    split at h
    · exact lv_iand hx hb hdg (hgo _ _ _ _ h H locs la hR hS hl)
    · exact h.elim
  case ior =>
    simp only [zlink, decide_eq_true_eq] at hlk
    subst hlk
    dsimp only [zdo] at h
    split at h
    · exact lv_ior hx hb hdg (hgo _ _ _ _ h H locs la hR hS hl)
    · exact h.elim
  case ineg =>
    simp only [zlink, decide_eq_true_eq] at hlk
    subst hlk
    dsimp only [zdo] at h
    split at h
    · exact lv_ineg hx hb hdg (hgo _ _ _ _ h H locs la hR hS hl)
    · exact h.elim
  case ishl =>
    simp only [zlink, decide_eq_true_eq] at hlk
    subst hlk
    dsimp only [zdo] at h
    split at h
    · exact lv_ishl hx hb hdg (hgo _ _ _ _ h H locs la hR hS hl)
    · exact h.elim
  case ishr =>
    simp only [zlink, decide_eq_true_eq] at hlk
    subst hlk
    dsimp only [zdo] at h
    split at h
    · exact lv_ishr hx hb hdg (hgo _ _ _ _ h H locs la hR hS hl)
    · exact h.elim
  case iushr =>
    simp only [zlink, decide_eq_true_eq] at hlk
    subst hlk
    dsimp only [zdo] at h
    split at h
    · exact lv_iushr hx hb hdg rfl (hgo _ _ _ _ h H locs la hR hS hl)
    · exact h.elim
  case i2l =>
    simp only [zlink, decide_eq_true_eq] at hlk
    subst hlk
    dsimp only [zdo] at h
    split at h
    · exact lv_i2l hx hb hdg rfl (hgo _ _ _ _ h H locs la hR hS hl)
    · exact h.elim
  case l2i =>
    simp only [zlink, decide_eq_true_eq] at hlk
    subst hlk
    dsimp only [zdo] at h
    split at h
    · exact lv_l2i hx hb hdg rfl (hgo _ _ _ _ h H locs la hR hS hl)
    · exact h.elim
  case i2b =>
    simp only [zlink, decide_eq_true_eq] at hlk
    subst hlk
    dsimp only [zdo] at h
    split at h
    · exact lv_i2b hx hb hdg rfl (hgo _ _ _ _ h H locs la hR hS hl)
    · exact h.elim
  case land =>
    simp only [zlink, decide_eq_true_eq] at hlk
    subst hlk
    dsimp only [zdo] at h
    split at h
    · exact lv_land hx hb hdg (hgo _ _ _ _ h H locs la hR hS hl)
    · exact h.elim
  case lor =>
    simp only [zlink, decide_eq_true_eq] at hlk
    subst hlk
    dsimp only [zdo] at h
    split at h
    · exact lv_lor hx hb hdg (hgo _ _ _ _ h H locs la hR hS hl)
    · exact h.elim
  case lshl =>
    simp only [zlink, decide_eq_true_eq] at hlk
    subst hlk
    dsimp only [zdo] at h
    split at h
    · exact lv_lshl hx hb hdg rfl (hgo _ _ _ _ h H locs la hR hS hl)
    · exact h.elim
  case lshr =>
    simp only [zlink, decide_eq_true_eq] at hlk
    subst hlk
    dsimp only [zdo] at h
    split at h
    · exact lv_lshr hx hb hdg rfl (hgo _ _ _ _ h H locs la hR hS hl)
    · exact h.elim
  case lushr =>
    simp only [zlink, decide_eq_true_eq] at hlk
    subst hlk
    dsimp only [zdo] at h
    split at h
    · exact lv_lushr hx hb hdg rfl (hgo _ _ _ _ h H locs la hR hS hl)
    · exact h.elim
  case lcmp =>
    simp only [zlink, decide_eq_true_eq] at hlk
    subst hlk
    dsimp only [zdo] at h
    split at h
    · exact W.lcmp hx hb hdg (hgo _ _ _ _ h H locs la hR hS hl)
    · exact h.elim
  case dup =>
    simp only [zlink, decide_eq_true_eq] at hlk
    subst hlk
    dsimp only [zdo] at h
    split at h
    · exact lv_dup hx hb hdg rfl (hgo _ _ _ _ h H locs la hR hS hl)
    · exact lv_dup hx hb hdg rfl (hgo _ _ _ _ h H locs la hR hS hl)
    · exact h.elim
  case dup2 =>
    simp only [zlink, decide_eq_true_eq] at hlk
    subst hlk
    dsimp only [zdo] at h
    split at h
    · exact lv_dup2_11 hx hb hdg rfl rfl (hgo _ _ _ _ h H locs la hR hS hl)
    · exact h.elim
  case pop =>
    simp only [zlink, decide_eq_true_eq] at hlk
    subst hlk
    dsimp only [zdo] at h
    split at h
    · exact lv_pop hx hb hdg rfl (hgo _ _ _ _ h H locs la hR hS hl)
    · exact h.elim
  case goto o =>
    simp only [zlink, Bool.and_eq_true, decide_eq_true_eq] at hlk
    obtain ⟨hlen, ht⟩ := hlk
    subst hlen
    exact lv_goto hx hb hdg ht (hgo _ _ _ _ h H locs la hR hS hl)
  case ifCond cd o =>
    simp only [zlink, Bool.and_eq_true, decide_eq_true_eq] at hlk
    obtain ⟨hlen, ht⟩ := hlk
    subst hlen
    dsimp only [zdo] at h
    split at h
    · cases cd
      · exact lv_if_eq hx hb hdg ht (fun q => hgo _ _ _ _ (h.1 q) H locs la hR hS hl) (fun q => hgo _ _ _ _ (h.2 q) H locs la hR hS hl)
      · exact lv_if_ne hx hb hdg ht (fun q => hgo _ _ _ _ (h.1 q) H locs la hR hS hl) (fun q => hgo _ _ _ _ (h.2 q) H locs la hR hS hl)
      · exact lv_if_lt hx hb hdg ht (fun q => hgo _ _ _ _ (h.1 q) H locs la hR hS hl) (fun q => hgo _ _ _ _ (h.2 q) H locs la hR hS hl)
      · exact lv_if_ge hx hb hdg ht (fun q => hgo _ _ _ _ (h.1 q) H locs la hR hS hl) (fun q => hgo _ _ _ _ (h.2 q) H locs la hR hS hl)
      · exact lv_if_gt hx hb hdg ht (fun q => hgo _ _ _ _ (h.1 q) H locs la hR hS hl) (fun q => hgo _ _ _ _ (h.2 q) H locs la hR hS hl)
      · exact lv_if_le hx hb hdg ht (fun q => hgo _ _ _ _ (h.1 q) H locs la hR hS hl) (fun q => hgo _ _ _ _ (h.2 q) H locs la hR hS hl)
    · exact h.elim
  case if_icmp cd o =>
    simp only [zlink, Bool.and_eq_true, decide_eq_true_eq] at hlk
    obtain ⟨hlen, ht⟩ := hlk
    subst hlen
    dsimp only [zdo] at h
    split at h
    · cases cd
      · exact lv_icmp_eq hx hb hdg ht (fun q => hgo _ _ _ _ (h.1 q) H locs la hR hS hl) (fun q => hgo _ _ _ _ (h.2 q) H locs la hR hS hl)
      · exact lv_icmp_ne hx hb hdg ht (fun q => hgo _ _ _ _ (h.1 q) H locs la hR hS hl) (fun q => hgo _ _ _ _ (h.2 q) H locs la hR hS hl)
      · exact lv_icmp_lt hx hb hdg ht (fun q => hgo _ _ _ _ (h.1 q) H locs la hR hS hl) (fun q => hgo _ _ _ _ (h.2 q) H locs la hR hS hl)
      · exact lv_icmp_ge hx hb hdg ht (fun q => hgo _ _ _ _ (h.1 q) H locs la hR hS hl) (fun q => hgo _ _ _ _ (h.2 q) H locs la hR hS hl)
      · exact lv_icmp_gt hx hb hdg ht (fun q => hgo _ _ _ _ (h.1 q) H locs la hR hS hl) (fun q => hgo _ _ _ _ (h.2 q) H locs la hR hS hl)
      · exact lv_icmp_le hx hb hdg ht (fun q => hgo _ _ _ _ (h.1 q) H locs la hR hS hl) (fun q => hgo _ _ _ _ (h.2 q) H locs la hR hS hl)
    · exact h.elim
  case tableswitch df lo hi' offs =>
    simp only [zlink, Bool.and_eq_true, decide_eq_true_eq, List.all_eq_true, List.mem_range] at hlk
    obtain ⟨⟨⟨⟨ht, hn1⟩, hn2⟩, hn3⟩, hall⟩ := hlk
    dsimp only [zdo] at h
    split at h
    · rename_i x r
      obtain ⟨g1, g2⟩ := zsw_of h
      have key : ∀ j, j < sw.length → ∃ (t : Nat) (o : Int), sw[j]? = some (lo + j, t) ∧ offs[j]? = some o ∧ (pc : Int) + o = (t : Int) := by
        intro j hj
        have := hall j hj
        split at this
        · rename_i k t o e1 e2
          simp only [Bool.and_eq_true, decide_eq_true_eq] at this
          exact ⟨t, o, by rw [e1, this.1], e2, this.2⟩
        · cases this
      by_cases hlo1 : x.toInt < lo
      · exact lv_tableOut hx hb hdg (Or.inl hlo1) ht (hgo _ _ _ _ (g2 (fun j k u hj hk => by
          have hjl : j < sw.length := (List.getElem?_eq_some_iff.mp hj).1
          obtain ⟨t, o, e1, -⟩ := key j hjl
          rw [hj] at e1
          cases e1
          omega)) H locs la hR hS hl)
      · by_cases hhi1 : hi' < x.toInt
        · exact lv_tableOut hx hb hdg (Or.inr hhi1) ht (hgo _ _ _ _ (g2 (fun j k u hj hk => by
            have hjl : j < sw.length := (List.getElem?_eq_some_iff.mp hj).1
            obtain ⟨t, o, e1, -⟩ := key j hjl
            rw [hj] at e1
            cases e1
            omega)) H locs la hR hS hl)
        · have hjl : (x.toInt - lo).toNat < sw.length := by omega
          obtain ⟨t, o, e1, e2, e3⟩ := key _ hjl
          refine lv_tableIn hx hb hdg hlo1 hhi1 e2 e3 (hgo _ _ _ _ (g1 _ _ t e1 (by omega) (fun i k' u' hi hk' hxk => ?_)) H locs la hR hS hl)
          obtain ⟨t2, o2, e4, -⟩ := key i (by omega)
          rw [hk'] at e4
          cases e4
          omega
    · exact h.elim
  case lookupswitch df ps =>
    simp only [zlink, Bool.and_eq_true, decide_eq_true_eq] at hlk
    obtain ⟨⟨ht, hord⟩, hsw⟩ := hlk
    dsimp only [zdo] at h
    split at h
    · rename_i x r
      obtain ⟨tgt, e1, e2⟩ := zlook ps.toList sw df a hsw ht h
      exact lv_lookup hx hb hdg hord rfl e1 (hgo _ _ _ _ e2 H locs la hR hS hl)
    · exact h.elim
  case getfield i =>
    simp only [zlink, Bool.and_eq_true, decide_eq_true_eq] at hlk
    obtain ⟨hlen, hlk⟩ := hlk
    subst hlen
    dsimp only [zdo] at h
    split at h
    · rename_i f n r
      split at h
      · rename_i cnt ci fs ht
        obtain ⟨hn, rfl, h⟩ := h
        split at hlk
        · rename_i Cn T N hcl
          simp only [Bool.and_eq_true, decide_eq_true_eq] at hlk
          split at h
          · rename_i hf
            exact zs_get C0 hR ht hn hcl hlk.1 (zT_of hlk.2 rfl) hf hdg (hgo _ _ _ _ h H locs la hR hS hl)
          · rename_i g hf
            exact zs_get C0 hR ht hn hcl hlk.1 (zT_of hlk.2 rfl) hf hdg (hgo _ _ _ _ h H locs la hR hS hl)
          · exact h.elim
        · cases hlk
      · exact h.elim
    · exact h.elim
  case putfield i =>
    simp only [zlink, Bool.and_eq_true, decide_eq_true_eq] at hlk
    obtain ⟨hlen, hlk⟩ := hlk
    subst hlen
    dsimp only [zdo] at h
    split at h
    · rename_i x f n r
      split at h
      · rename_i cnt ci fs ht
        obtain ⟨hn, rfl, hf, hx01, h⟩ := h
        split at hlk
        · rename_i Cn T N hcl
          simp only [Bool.and_eq_true, Bool.or_eq_true, decide_eq_true_eq, Bool.not_eq_true'] at hlk
          obtain ⟨⟨⟨hbN, hw⟩, hfin⟩, hty⟩ := hlk
          refine zs_put C0 hR hS ht hn hcl hbN (zT_of hw rfl) hfin hf ?_ hdg (fun H1 locs1 hR1 hS1 => hgo _ _ _ _ h H1 locs1 la hR1 hS1 hl)
          rcases hty with hty | ⟨hty, hcv⟩
          · exact Or.inl hty
          · refine Or.inr ⟨hty, ?_⟩
            rcases hx01 with h0 | h0
            · rw [hcv] at h0
              exact absurd h0 (by decide)
            · exact h0
        · cases hlk
      · exact h.elim
    · exact h.elim
  case arraylength =>
    simp only [zlink, decide_eq_true_eq] at hlk
    subst hlk
    dsimp only [zdo] at h
    split at h
    · rename_i f i r
      split at h
      · rename_i hf
        subst hf
        obtain ⟨rfl, h⟩ := h
        obtain ⟨-, -, -, s4, s5, s6, -⟩ := hst
        exact va_slen hx hb s4 s5 s6 hS hdg (hgo _ _ _ _ h H locs la hR hS hl)
      · split at h
        · rename_i cnt kd len hz
          obtain ⟨hi, h⟩ := h
          have hz := zam_zar hz hi
          obtain ⟨k, hk, he⟩ := zar_at (X := X) (μ := μ) hz
          obtain ⟨ty, hty⟩ := zPrim (X := X) hz
          exact va_alen hx hb hR.1 hR.2.1 k kd he hty rfl hdg (hgo _ _ _ _ h H locs la hR hS hl)
        · exact h.elim
    · exact h.elim
  case iaload =>
    simp only [zlink, decide_eq_true_eq] at hlk
    subst hlk
    dsimp only [zdo] at h
    split at h
    · rename_i j f i r
      split at h
      · rename_i hf
        subst hf
        obtain ⟨rfl, hin, h⟩ := h
        obtain ⟨-, -, -, s4, s5, s6, -⟩ := hst
        exact va_sld hx hb s4 s5 s6 hS hin hdg (hgo _ _ _ _ h H locs la hR hS hl)
      · split at h
        · rename_i cnt len hz
          obtain ⟨hi, h⟩ := h
          have hz := zam_zar hz hi
          obtain ⟨k, hk, he⟩ := zar_at (X := X) (μ := μ) hz
          exact va_iald hx hb hR.1 hR.2.1 k 0 he rfl h.1 hdg (hgo _ _ _ _ h.2 H locs la hR hS hl)
        · exact h.elim
    · exact h.elim
  case baload =>
    simp only [zlink, decide_eq_true_eq] at hlk
    subst hlk
    dsimp only [zdo] at h
    split at h
    · rename_i j f i r
      split at h
      · rename_i cnt len hz
        obtain ⟨hi, h⟩ := h
        have hz := zam_zar hz hi
        obtain ⟨k, hk, he⟩ := zar_at (X := X) (μ := μ) hz
        exact va_zald hx hb hR.1 hR.2.1 k 1 he rfl h.1 hdg (hgo _ _ _ _ h.2 H locs la hR hS hl)
      · rename_i cnt len hz
        obtain ⟨hi, h⟩ := h
        have hz := zam_zar hz hi
        obtain ⟨k, hk, he⟩ := zar_at (X := X) (μ := μ) hz
        exact va_bald hx hb hR.1 hR.2.1 k 2 he rfl h.1 hdg (hgo _ _ _ _ h.2 H locs la hR hS hl)
      · exact h.elim
    · exact h.elim
  case caload =>
    simp only [zlink, decide_eq_true_eq] at hlk
    subst hlk
    dsimp only [zdo] at h
    split at h
    · rename_i j f i r
      split at h
      · rename_i cnt len hz
        obtain ⟨hi, h⟩ := h
        have hz := zam_zar hz hi
        obtain ⟨k, hk, he⟩ := zar_at (X := X) (μ := μ) hz
        exact va_cald hx hb hR.1 hR.2.1 k 3 he rfl h.1 hdg (hgo _ _ _ _ h.2 H locs la hR hS hl)
      · exact h.elim
    · exact h.elim
  case aaload =>
    simp only [zlink, decide_eq_true_eq] at hlk
    subst hlk
    dsimp only [zdo] at h
    split at h
    · rename_i j f i r
      split at h
      · rename_i cnt kd len g ht
        exact zs_aald C0 hR ht h.1 h.2.1 hdg (hgo _ _ _ _ h.2.2 H locs la hR hS hl)
      · exact h.elim
    · exact h.elim
  case iastore =>
    simp only [zlink, decide_eq_true_eq] at hlk
    subst hlk
    dsimp only [zdo] at h
    split at h
    · rename_i x j f i r
      split at h
      · rename_i cnt len hz
        obtain ⟨hi, h⟩ := h
        have hz := zam_zar hz hi
        obtain ⟨k, hk, he⟩ := zar_at (X := X) (μ := μ) hz
        refine va_iast hx hb hR.1 hR.2.1 hR.2.2 hS k 0 he rfl h.1 hdg (fun H1 locs1 hP1 hD1 hS1 => ?_)
        rw [zar_set hz hk] at hP1 hD1
        exact hgo _ _ _ _ h.2 H1 locs1 la ⟨hR.1, hP1, hD1⟩ hS1 hl
      · exact h.elim
    · exact h.elim
  case bastore =>
    simp only [zlink, decide_eq_true_eq] at hlk
    subst hlk
    dsimp only [zdo] at h
    split at h
    · rename_i x j f i r
      split at h
      · rename_i cnt len hz
        obtain ⟨hi, h⟩ := h
        have hz := zam_zar hz hi
        obtain ⟨k, hk, he⟩ := zar_at (X := X) (μ := μ) hz
        refine va_zast hx hb hR.1 hR.2.1 hR.2.2 hS k 1 he rfl h.1 hdg (fun H1 locs1 hP1 hD1 hS1 => ?_)
        rw [zar_set hz hk] at hP1 hD1
        exact hgo _ _ _ _ h.2 H1 locs1 la ⟨hR.1, hP1, hD1⟩ hS1 hl
      · rename_i cnt len hz
        obtain ⟨hi, h⟩ := h
        have hz := zam_zar hz hi
        obtain ⟨k, hk, he⟩ := zar_at (X := X) (μ := μ) hz
        refine va_bast hx hb hR.1 hR.2.1 hR.2.2 hS k 2 he rfl h.1 hdg (fun H1 locs1 hP1 hD1 hS1 => ?_)
        rw [zar_set hz hk] at hP1 hD1
        exact hgo _ _ _ _ h.2 H1 locs1 la ⟨hR.1, hP1, hD1⟩ hS1 hl
      · exact h.elim
    · exact h.elim
  case invokevirtual i =>
    simp only [zlink, Bool.and_eq_true, decide_eq_true_eq] at hlk
    obtain ⟨hlen, hlk⟩ := hlk
    subst hlen
    cases M with
    | none => exact h.elim
    | some M =>
      obtain ⟨y, bt, mL, rt'⟩ := M
      simp only [Bool.and_eq_true, decide_eq_true_eq] at hlk
      obtain ⟨⟨⟨⟨⟨⟨⟨⟨⟨w0, w1⟩, w2⟩, w3⟩, w4⟩, hcn⟩, n1⟩, n2⟩, hpar⟩, hmL⟩ := hlk
      dsimp only [zdo] at h
      split at h
      · rename_i f n r hdr
        obtain ⟨hrc, hsum, hcall⟩ := h
        have hblen : b ≤ st.length := by
          rcases Nat.lt_or_ge st.length b with q | q
          · rw [List.drop_eq_nil_of_le (Nat.le_of_lt q)] at hdr
            cases hdr
          · exact q
        have hst2 : st.map (ztr X) = (((st.take b).reverse.map (ztr X)).reverse ++ .ref (X.1 f n) :: r.map (ztr X)) := by
          conv => lhs; rw [← List.take_append_drop b st, hdr]
          simp [ztr]
        have hrecv : ∃ cellB : Cell, H[X.1 f n]? = some cellB ∧ cellB.vm.isStatics = false ∧ s.vm.findClass y.cls = some cellB.cls := by
          split at hrc
          · rename_i hf
            subst hf
            rw [hcn, hrc.1]
            exact vk_recv hst.1 hrc.2 hS
          · split at hrc
            · rename_i cnt ci fs ht
              obtain ⟨hn, rfl⟩ := hrc
              obtain ⟨k, hk⟩ := List.getElem?_of_mem (zAll_mem ht hn)
              have he := zWs_at (X := X) (μ := μ) hk
              rw [zE_obj ht] at he
              have hci : ∃ q, zcl[ci]? = some q := by
                obtain ⟨q', h1, -⟩ := hR.2.1 k _ he
                exact ⟨q', h1⟩
              obtain ⟨q, hq⟩ := hci
              have hq1 : y.cls = q.1 := by
                rw [hcn]
                have h50 : ci ≠ 50 := by
                  intro h5
                  subst h5
                  cases hq
                simp [zcn, h50, hq]
              rw [hq1]
              exact va_recv hR.1 hR.2.1 hq he
            · exact hrc.elim
        rw [hst2]
        exact zs_virt (M := (y, bt, mL, rt')) C0 hR hS hl hrecv (zT_of w0 rfl) (zT_of w1 rfl) (zT_of w2 rfl) (zT_of w3 rfl) (zT_of w4 rfl) ⟨n1, n2, by rw [hpar, List.length_reverse, List.length_take, Nat.min_eq_left hblen]⟩ hmL hsum hcall hdg (fun q μ' H1 locs1 hk hR1 hS1 => hgo _ _ _ _ hk H1 locs1 la hR1 hS1 hl)
      · exact h.elim
  case invokestatic i =>
    simp only [zlink, Bool.and_eq_true, decide_eq_true_eq] at hlk
    obtain ⟨hlen, hlk⟩ := hlk
    subst hlen
    cases M with
    | none =>
      simp only [Bool.and_eq_true] at hlk
      obtain ⟨⟨⟨w0, w1⟩, w2⟩, w3⟩ := hlk
      dsimp only [zdo] at h
      split at h
      · rename_i n dp f1 i1 sp f0 i0 r
        split at h
        · rename_i cnt0 n0 cnt1 n1 hz0 hz1
          obtain ⟨b0, b1, h⟩ := h
          have hz0 := zam_zar hz0 b0
          have hz1 := zam_zar hz1 b1
          obtain ⟨a1, a2, a3, a4, a5, a6, h⟩ := h
          obtain ⟨k0, hk0, he0⟩ := zar_at (X := X) (μ := μ) hz0
          obtain ⟨k1, hk1, he1⟩ := zar_at (X := X) (μ := μ) hz1
          obtain ⟨cnt1, ht1, -⟩ := zar_of hz1
          refine va_copyi hx hb (hml.trans hl.2.1.symm) hown (hts _ (zT_of w0 rfl)) (hts _ (zT_of w1 rfl)) (hts _ (zT_of w2 rfl)) (hts _ (zT_of w3 rfl)) hR.1 hR.2.1 hR.2.2 hS k0 k1 0 0 he0 he1 rfl rfl rfl a1 a2 a3 a4 a5 (fun _ _ => rfl) (by omega) ?_ hdg (fun H1 locs1 hP1 hD1 hS1 => ?_)
          · rw [zcat_sum, show nativeFrameWords "java/lang/System" "arraycopy" 5 = 7 from rfl]
            omega
          · have hse : (zWs X μ).set k1 (X.1 f1 i1, (Sum.inl (X.2.2.1 0, n1, Sum.inl (va_cpy (μ f0 i0) (μ f1 i1) sp.toNatClampNeg dp.toNatClampNeg n.toNatClampNeg)) : va_E)) = zWs X (fun f i k => if f = f1 ∧ i = i1 ∧ dp.toNatClampNeg ≤ k ∧ k < dp.toNatClampNeg + n.toNatClampNeg then μ f0 i0 (sp.toNatClampNeg + (k - dp.toNatClampNeg)) else μ f i k) := by
              refine zWs_set hk1 ?_ (fun n' hn' => zE_ne (fun k => ?_))
              · rw [zE_arr ht1]
                congr 4
                funext k
                simp [va_cpy]
              · rw [if_neg]
                rintro ⟨q1, q2, -⟩
                exact hn' (Prod.ext q1 q2)
            rw [hse] at hP1 hD1
            exact hgo _ _ _ _ h H1 locs1 la ⟨hR.1, hP1, hD1⟩ hS1 hl
        · exact h.elim
      · exact h.elim
    | some M =>
      obtain ⟨y, bt, mL, rt'⟩ := M
      simp only [Bool.and_eq_true, decide_eq_true_eq] at hlk
      obtain ⟨⟨⟨⟨⟨⟨⟨w0, w1⟩, w2⟩, w3⟩, n1⟩, n2⟩, hpar⟩, hmL⟩ := hlk
      obtain ⟨hblen, hsum, hcall⟩ := h
      have hst2 : st.map (ztr X) = (((st.take b).reverse.map (ztr X)).reverse ++ (st.drop b).map (ztr X)) := by
        conv => lhs; rw [← List.take_append_drop b st]
        simp
      rw [hst2]
      exact zs_stat (M := (y, bt, mL, rt')) C0 hR hS hl (zT_of w0 rfl) (zT_of w1 rfl) (zT_of w2 rfl) (zT_of w3 rfl) ⟨n1, n2, by rw [hpar, List.length_reverse, List.length_take, Nat.min_eq_left hblen]⟩ hmL hsum hcall hdg (fun q μ' H1 locs1 hk hR1 hS1 => hgo _ _ _ _ hk H1 locs1 la hR1 hS1 hl)
  case ireturn =>
    simp only [zlink, decide_eq_true_eq] at hlk
    subst hlk
    dsimp only [zdo] at h
    split at h
    · exact hi _ μ H locs la pc h.2 h.1 hR hS hdg
    · exact h.elim
  case return_ =>
    simp only [zlink, decide_eq_true_eq] at hlk
    subst hlk
    dsimp only [zdo] at h
    split at h
    · exact hv μ H locs la pc h.2 h.1 hR hS hdg
    · exact h.elim
  all_goals exact False.elim h
end ZC
end
section
/-! METHODS: from a walk in the layer to a contract -/
def zG0 (n : Nat) (S : Nat × (Nat → Int32)) (d : Nat) (M : zMth) (K : Option zV → zMu → Prop) (pc : Nat) (ls : List (Option zV)) (st : List zV) (μ : zMu) : Prop :=
  if n = 0 then ∀ (X : zX) (p : Program) (l : Launch) (e : Env) (s : State) (m : MethodId) (args : Array Value) (below : List Frame) (meth : Method) (c : Code), X.2.2.2.2.2 = S → zCx X p (zrm d) s m args meth c 0 0 M.1.cls M.2.1 M.2.2.1 d M.2.2.2 → zW X p l e (zrm d) s m args below meth c 0 0 (MQ below (zQc X K) args s 0 0 (zA X)) M.2.2.1 pc ls st μ else zG0 (n - 1) S d M K pc ls st μ
termination_by n
decreasing_by omega
abbrev zG (S : Nat × (Nat → Int32)) (d : Nat) (M : zMth) (K : Option zV → zMu → Prop) (pc : Nat) (ls : List (Option zV)) (st : List zV) (μ : zMu) : Prop := zG0 0 S d M K pc ls st μ
theorem zG_iff {S : Nat × (Nat → Int32)} {d : Nat} {M : zMth} {K : Option zV → zMu → Prop} {pc : Nat} {ls : List (Option zV)} {st : List zV} {μ : zMu} : zG S d M K pc ls st μ ↔ ∀ (X : zX) (p : Program) (l : Launch) (e : Env) (s : State) (m : MethodId) (args : Array Value) (below : List Frame) (meth : Method) (c : Code), X.2.2.2.2.2 = S → zCx X p (zrm d) s m args meth c 0 0 M.1.cls M.2.1 M.2.2.1 d M.2.2.2 → zW X p l e (zrm d) s m args below meth c 0 0 (MQ below (zQc X K) args s 0 0 (zA X)) M.2.2.1 pc ls st μ := by
  unfold zG zG0
  rw [if_pos rfl]
theorem zs {S : Nat × (Nat → Int32)} {d : Nat} {M : zMth} {P : List zEn} {K : Option zV → zMu → Prop} {pc : Nat} {ls : List (Option zV)} {st : List zV} {μ : zMu} {en : zEn} (hP : zOK M P) (hf : zfet P pc = some en) (h : zdo S.1 S.2 M.2.2.2 (zCa d) K (zG S d M K) en ls st μ) : zG S d M K pc ls st μ := by
  refine zG_iff.mpr (fun X p l e s m args below meth c hS C => ?_)
  subst hS
  have hmem : en ∈ P := List.mem_of_find?_eq_some hf
  have hpc : en.1 = pc := Nat.eq_of_beq_eq_true (show Nat.beq en.1 pc = true from List.find?_some (p := fun e : zEn => Nat.beq e.1 pc) hf)
  have hc := List.all_eq_true.mp hP en hmem
  rw [← hpc]
  have hgo : ∀ pc ls st μ, zG X.2.2.2.2.2 d M K pc ls st μ → zW X p l e (zrm d) s m args below meth c 0 0 (MQ below (zQc X K) args s 0 0 (zA X)) M.2.2.1 pc ls st μ := fun pc ls st μ hg => zG_iff.mp hg X p l e s m args below meth c rfl C
  refine zs_core (go := zG X.2.2.2.2.2 d M K) C ?_ ?_ hgo hc h
  · intro x μ' H locs la pc' hk hrt hR hSS hdg
    have hq : ∀ t : State, t.heap = H → s.WarmedH t.vm → zQc X K args s (.returned (some (.int x))) t := fun t ht hW => ⟨⟨some (.inl x), μ', rfl, hk, by rw [ht]; exact zRmov hW.alike hR⟩, hSS.F ht⟩
    rcases hrt with h1 | ⟨h1, h2⟩
    · exact W.iret C.1 C.2.1 (C.2.2.2.2.2.1.trans h1) hq hSS.2.2 hdg C.2.2.2.2.2.2.1
    · exact W.zret (ty := .boolean) C.1 C.2.1 (C.2.2.2.2.2.1.trans h1) (by rcases h2 with rfl | rfl <;> rfl) hq hSS.2.2 hdg C.2.2.2.2.2.2.1
  · intro μ' H locs la pc' hk hrt hR hSS hdg
    exact W.vret C.1 C.2.1 (C.2.2.2.2.2.1.trans hrt) (fun t ht hW => ⟨⟨none, μ', rfl, hk, by rw [ht]; exact zRmov hW.alike hR⟩, hSS.F ht⟩) hSS.2.2 hdg C.2.2.2.2.2.2.1
theorem zsl_cons (v : Value) (r : List Value) : lg_sl (v :: r) = (if v.category = 2 then [Slot.val v, Slot.second] else [Slot.val v]) ++ lg_sl r := rfl
theorem zin_len {X : zX} : ∀ as : List zV, (lg_sl (as.map (ztr X))).length = (zin as).length
  | [] => rfl
  | .inl x :: r => by
    rw [List.map_cons, zsl_cons, List.length_append, zin_len r, show (ztr X (.inl x)).category = 1 from rfl, show zin (.inl x :: r) = some (.inl x) :: zin r from rfl, List.length_cons, if_neg (by decide)]
    exact Nat.add_comm 1 _
  | .inr (.inr n) :: r => by
    rw [List.map_cons, zsl_cons, List.length_append, zin_len r, show (ztr X (.inr (.inr n))).category = 1 from rfl, show zin (.inr (.inr n) :: r) = some (.inr (.inr n)) :: zin r from rfl, List.length_cons, if_neg (by decide)]
    exact Nat.add_comm 1 _
  | .inr (.inl x) :: r => by
    rw [List.map_cons, zsl_cons, List.length_append, zin_len r, show (ztr X (.inr (.inl x))).category = 2 from rfl, show zin (.inr (.inl x) :: r) = some (.inr (.inl x)) :: none :: zin r from rfl, List.length_cons, List.length_cons, if_pos rfl]
    exact Nat.add_comm 2 _
def zls (n : Nat) (as : List zV) : List (Option zV) := zin as ++ List.replicate (n - (zin as).length) none
theorem zmeet {d : Nat} {M : zMth} {as : List zV} {μ : zMu} {K : Option zV → zMu → Prop} (hy : plainName M.1.cls = true) (hn : (zin as).length ≤ M.2.2.1) (h : ∀ S, zG S d M K 0 (zls M.2.2.1 as) [] μ) : Ct d M as μ K := by
  refine Ct_iff.mpr (fun l X => ?_)
  refine Met.ofW (cc := M.2.1) (maxL := M.2.2.1) (ret := M.2.2.2) hy rfl ?_
  intro p e s m args below meth c s₁ B hml hv
  obtain ⟨rfl, hst, hR⟩ := hv
  have hts := atoms_spec (ws := zws M) B.pre
  have hown : s.vm.findClass M.1.cls = some m.cls := findClass_of_methodNamed B.named
  have C : zCx X p (zrm d) s m (as.map (ztr X)).toArray meth c 0 0 M.1.cls M.2.1 M.2.2.1 d M.2.2.2 := ⟨B.exec, B.bytes, hml, hown, fun w hw => hts w (List.mem_cons_of_mem _ hw), B.returns, B.notSynchronized, hst, Nat.le_refl _, Nat.le_refl _, Nat.le_refl _, Nat.le_refl _⟩
  have hl := lv_entry (as.map (ztr X)) (n := M.2.2.1) (by rw [zin_len]; exact hn)
  rw [lg_entry_eq]
  refine zG_iff.mp (h X.2.2.2.2.2) X p l e s m _ below meth c rfl C s.heap [] _ hR va_S.rf ⟨?_, hl.1, hl.2.1, fun q hq => hl.2.2 q (zin_lv as 0 _ q hq)⟩
  rw [zls, List.length_append, List.length_replicate]
  omega
end
section
/-- methods of classes for which the machine has entries of its own -/
theorem zmeetF {d : Nat} {M : zMth} {as : List zV} {μ : zMu} {K : Option zV → zMu → Prop} (hy : plainFor M.1 = true) (hn : (zin as).length ≤ M.2.2.1) (h : ∀ S, zG S d M K 0 (zls M.2.2.1 as) [] μ) : Ct d M as μ K := by
  refine Ct_iff.mpr (fun l X => ?_)
  refine va_MetF (cc := M.2.1) (maxL := M.2.2.1) (ret := M.2.2.2) hy rfl ?_
  intro p e s m args below meth c s₁ B hml hv
  obtain ⟨rfl, hst, hR⟩ := hv
  have hts := atoms_spec (ws := zws M) B.pre
  have hown : s.vm.findClass M.1.cls = some m.cls := findClass_of_methodNamed B.named
  have C : zCx X p (zrm d) s m (as.map (ztr X)).toArray meth c 0 0 M.1.cls M.2.1 M.2.2.1 d M.2.2.2 := ⟨B.exec, B.bytes, hml, hown, fun w hw => hts w (List.mem_cons_of_mem _ hw), B.returns, B.notSynchronized, hst, Nat.le_refl _, Nat.le_refl _, Nat.le_refl _, Nat.le_refl _⟩
  have hl := lv_entry (as.map (ztr X)) (n := M.2.2.1) (by rw [zin_len]; exact hn)
  rw [lg_entry_eq]
  refine zG_iff.mp (h X.2.2.2.2.2) X p l e s m _ below meth c rfl C s.heap [] _ hR va_S.rf ⟨?_, hl.1, hl.2.1, fun q hq => hl.2.2 q (zin_lv as 0 _ q hq)⟩
  rw [zls, List.length_append, List.length_replicate]
  omega
theorem pf_max : plainFor yJ9_max_7cf53 = true := by decide +kernel
theorem pf_min : plainFor yJ9_min_7cf53 = true := by decide +kernel
theorem pf_abs : plainFor yJ9_abs_0f7a4 = true := by decide +kernel
theorem pf_fill : plainFor yJ7_fill_53178 = true := by decide +kernel
theorem pf_bit : plainFor yJ6_bitCount_0f7a4 = true := by decide +kernel
theorem pf_len : plainFor yJ0_length_8abf5 = true := by decide +kernel
theorem pf_chr : plainFor yJ0_charAt_5068e = true := by decide +kernel
theorem pf_cod : plainFor yJ0_coder_7d493 = true := by decide +kernel
theorem pf_lat : plainFor yJ0_isLatin1_aae02 = true := by decide +kernel
theorem pf_chk : plainFor yJ0_checkIndex_df160 = true := by decide +kernel
theorem pf_lch : plainFor yJ1_charAt_3b067 = true := by decide +kernel
theorem pf_pre : plainFor yJ3_checkIndex_8e157 = true := by decide +kernel
end
section
/-! ROLL: small answers -/
theorem vp_lt {x : Int32} {n : Nat} (h : vp_in x n) : x.toNatClampNeg < n := by
  unfold vp_in at h
  omega
theorem c_Ro_isTongue {d : Nat} {μ : zMu} {x : Int32} {K : Option zV → zMu → Prop} (h1 : 0 ≤ x → x < 8 → K (some (zI 1)) μ) (h0 : ¬ (0 ≤ x ∧ x < 8) → K (some (zI 0)) μ) : Ct d m_Ro_isTongue [zI x] μ K := by
  refine zmeet rfl (Nat.le_of_ble_eq_true rfl) (fun S => ?_)
  repeat' (first
    | exact h0 (by grind)
    | exact h1 (by grind) (by grind)
    | refine zs k_Ro_isTongue rfl ?_
    | refine ⟨Nat.zero_lt_one, rfl, ?_⟩
    | refine ⟨rfl, ?_⟩
    | refine ⟨⟨Nat.zero_lt_one, rfl⟩, Nat.le_of_ble_eq_true rfl, ?_⟩
    | refine ⟨Nat.le_of_ble_eq_true rfl, Nat.le_of_ble_eq_true rfl, ?_⟩
    | refine ⟨(by first | exact Nat.zero_lt_one | assumption | omega), (by first | assumption | exact vp_in_nI (by omega) (by omega) | (unfold vp_in; decide)), ?_⟩
    | refine ⟨(by first | exact Nat.zero_lt_one | assumption | omega), rfl, ?_⟩
    | refine ⟨⟨(by first | exact Nat.zero_lt_one | assumption | omega), rfl⟩, Nat.le_of_ble_eq_true rfl, ?_⟩
    | refine ⟨Or.inl rfl, ?_⟩
    | refine ⟨Or.inr (Or.inl rfl), ?_⟩
    | refine ⟨Or.inr (Or.inr rfl), ?_⟩
    | refine ⟨Or.inr ⟨rfl, (by first | exact Or.inl rfl | exact Or.inr rfl | assumption)⟩, ?_⟩
    | refine ⟨fun h => absurd h (by decide), fun _ => ?_⟩
    | refine ⟨fun _ => ?_, fun h => absurd h (by decide)⟩
    | refine ⟨fun h => ?_, fun h => ?_⟩
    | fail)
theorem c_Ro_isStateAsTold {d : Nat} {μ : zMu} {x y : Int32} {K : Option zV → zMu → Prop} (h1 : 0 ≤ x ∧ x ≤ 99 ∧ 0 ≤ y ∧ y < 8 → K (some (zI 1)) μ) (h0 : ¬ (0 ≤ x ∧ x ≤ 99 ∧ 0 ≤ y ∧ y < 8) → K (some (zI 0)) μ) : Ct (d + 1) m_Ro_isStateAsTold [zI x, zI y] μ K := by
  refine zmeet rfl (Nat.le_of_ble_eq_true rfl) (fun S => ?_)
  repeat' (first
    | refine c_Ro_isTongue (fun _ _ => ?_) (fun _ => ?_)
    | exact h0 (by grind)
    | exact h1 (by grind)
    | refine zs k_Ro_isStateAsTold rfl ?_
    | refine ⟨Nat.zero_lt_one, rfl, ?_⟩
    | refine ⟨rfl, ?_⟩
    | refine ⟨⟨Nat.zero_lt_one, rfl⟩, Nat.le_of_ble_eq_true rfl, ?_⟩
    | refine ⟨Nat.le_of_ble_eq_true rfl, Nat.le_of_ble_eq_true rfl, ?_⟩
    | refine ⟨(by first | exact Nat.zero_lt_one | assumption | omega), (by first | assumption | exact vp_in_nI (by omega) (by omega) | (unfold vp_in; decide)), ?_⟩
    | refine ⟨(by first | exact Nat.zero_lt_one | assumption | omega), rfl, ?_⟩
    | refine ⟨⟨(by first | exact Nat.zero_lt_one | assumption | omega), rfl⟩, Nat.le_of_ble_eq_true rfl, ?_⟩
    | refine ⟨Or.inl rfl, ?_⟩
    | refine ⟨Or.inr (Or.inl rfl), ?_⟩
    | refine ⟨Or.inr (Or.inr rfl), ?_⟩
    | refine ⟨Or.inr ⟨rfl, (by first | exact Or.inl rfl | exact Or.inr rfl | assumption)⟩, ?_⟩
    | refine ⟨fun h => absurd h (by decide), fun _ => ?_⟩
    | refine ⟨fun _ => ?_, fun h => absurd h (by decide)⟩
    | refine ⟨fun h => ?_, fun h => ?_⟩
    | fail)
theorem c_Ro_isPersonAsTold {d : Nat} {μ : zMu} {k r y : Int32} {K : Option zV → zMu → Prop} (h1 : 0 ≤ k ∧ k ≤ 5 ∧ 0 ≤ r ∧ r ≤ 9 ∧ 0 ≤ y ∧ y ≤ 9999 → K (some (zI 1)) μ) (h0 : ¬ (0 ≤ k ∧ k ≤ 5 ∧ 0 ≤ r ∧ r ≤ 9 ∧ 0 ≤ y ∧ y ≤ 9999) → K (some (zI 0)) μ) : Ct d m_Ro_isPersonAsTold [zI k, zI r, zI y] μ K := by
  refine zmeet rfl (Nat.le_of_ble_eq_true rfl) (fun S => ?_)
  repeat' (first
    | exact h0 (by grind)
    | exact h1 (by grind)
    | refine zs k_Ro_isPersonAsTold rfl ?_
    | refine ⟨Nat.zero_lt_one, rfl, ?_⟩
    | refine ⟨rfl, ?_⟩
    | refine ⟨⟨Nat.zero_lt_one, rfl⟩, Nat.le_of_ble_eq_true rfl, ?_⟩
    | refine ⟨Nat.le_of_ble_eq_true rfl, Nat.le_of_ble_eq_true rfl, ?_⟩
    | refine ⟨(by first | exact Nat.zero_lt_one | assumption | omega), (by first | assumption | exact vp_in_nI (by omega) (by omega) | (unfold vp_in; decide)), ?_⟩
    | refine ⟨(by first | exact Nat.zero_lt_one | assumption | omega), rfl, ?_⟩
    | refine ⟨⟨(by first | exact Nat.zero_lt_one | assumption | omega), rfl⟩, Nat.le_of_ble_eq_true rfl, ?_⟩
    | refine ⟨Or.inl rfl, ?_⟩
    | refine ⟨Or.inr (Or.inl rfl), ?_⟩
    | refine ⟨Or.inr (Or.inr rfl), ?_⟩
    | refine ⟨Or.inr ⟨rfl, (by first | exact Or.inl rfl | exact Or.inr rfl | assumption)⟩, ?_⟩
    | refine ⟨fun h => absurd h (by decide), fun _ => ?_⟩
    | refine ⟨fun _ => ?_, fun h => absurd h (by decide)⟩
    | refine ⟨fun h => ?_, fun h => ?_⟩
    | fail)
theorem c_Ro_isOfAnother {d : Nat} {μ : zMu} {k : Int32} {K : Option zV → zMu → Prop} (h1 : k = 3 ∨ k = 4 → K (some (zI 1)) μ) (h0 : ¬ (k = 3 ∨ k = 4) → K (some (zI 0)) μ) : Ct d m_Ro_isOfAnother [zI k] μ K := by
  refine zmeet rfl (Nat.le_of_ble_eq_true rfl) (fun S => ?_)
  repeat' (first
    | exact h0 (by grind)
    | exact h1 (by grind)
    | refine zs k_Ro_isOfAnother rfl ?_
    | refine ⟨Nat.zero_lt_one, rfl, ?_⟩
    | refine ⟨rfl, ?_⟩
    | refine ⟨⟨Nat.zero_lt_one, rfl⟩, Nat.le_of_ble_eq_true rfl, ?_⟩
    | refine ⟨Nat.le_of_ble_eq_true rfl, Nat.le_of_ble_eq_true rfl, ?_⟩
    | refine ⟨(by first | exact Nat.zero_lt_one | assumption | omega), (by first | assumption | exact vp_in_nI (by omega) (by omega) | (unfold vp_in; decide)), ?_⟩
    | refine ⟨(by first | exact Nat.zero_lt_one | assumption | omega), rfl, ?_⟩
    | refine ⟨⟨(by first | exact Nat.zero_lt_one | assumption | omega), rfl⟩, Nat.le_of_ble_eq_true rfl, ?_⟩
    | refine ⟨Or.inl rfl, ?_⟩
    | refine ⟨Or.inr (Or.inl rfl), ?_⟩
    | refine ⟨Or.inr (Or.inr rfl), ?_⟩
    | refine ⟨Or.inr ⟨rfl, (by first | exact Or.inl rfl | exact Or.inr rfl | assumption)⟩, ?_⟩
    | refine ⟨fun h => absurd h (by decide), fun _ => ?_⟩
    | refine ⟨fun _ => ?_, fun h => absurd h (by decide)⟩
    | refine ⟨fun h => ?_, fun h => ?_⟩
    | fail)
theorem c_Ro_hasState {d : Nat} {μ : zMu} {x : Int32} {K : Option zV → zMu → Prop} (h1 : 0 ≤ x → x < μ 1 0 0 → K (some (zI 1)) μ) (h0 : ¬ (0 ≤ x ∧ x < μ 1 0 0) → K (some (zI 0)) μ) : Ct d m_Ro_hasState [zR 1 0, zI x] μ K := by
  refine zmeet rfl (Nat.le_of_ble_eq_true rfl) (fun S => ?_)
  repeat' (first
    | exact h0 (by grind)
    | exact h1 (by grind) (by grind)
    | refine zs k_Ro_hasState rfl ?_
    | refine ⟨Nat.zero_lt_one, rfl, ?_⟩
    | refine ⟨rfl, ?_⟩
    | refine ⟨⟨Nat.zero_lt_one, rfl⟩, Nat.le_of_ble_eq_true rfl, ?_⟩
    | refine ⟨Nat.le_of_ble_eq_true rfl, Nat.le_of_ble_eq_true rfl, ?_⟩
    | refine ⟨(by first | exact Nat.zero_lt_one | assumption | omega), (by first | assumption | exact vp_in_nI (by omega) (by omega) | (unfold vp_in; decide)), ?_⟩
    | refine ⟨(by first | exact Nat.zero_lt_one | assumption | omega), rfl, ?_⟩
    | refine ⟨⟨(by first | exact Nat.zero_lt_one | assumption | omega), rfl⟩, Nat.le_of_ble_eq_true rfl, ?_⟩
    | refine ⟨Or.inl rfl, ?_⟩
    | refine ⟨Or.inr (Or.inl rfl), ?_⟩
    | refine ⟨Or.inr (Or.inr rfl), ?_⟩
    | refine ⟨Or.inr ⟨rfl, (by first | exact Or.inl rfl | exact Or.inr rfl | assumption)⟩, ?_⟩
    | refine ⟨fun h => absurd h (by decide), fun _ => ?_⟩
    | refine ⟨fun _ => ?_, fun h => absurd h (by decide)⟩
    | refine ⟨fun h => ?_, fun h => ?_⟩
    | fail)
theorem c_Ro_hasPerson {d : Nat} {μ : zMu} {x : Int32} {K : Option zV → zMu → Prop} (h1 : 0 ≤ x → x < μ 1 0 1 → K (some (zI 1)) μ) (h0 : ¬ (0 ≤ x ∧ x < μ 1 0 1) → K (some (zI 0)) μ) : Ct d m_Ro_hasPerson [zR 1 0, zI x] μ K := by
  refine zmeet rfl (Nat.le_of_ble_eq_true rfl) (fun S => ?_)
  repeat' (first
    | exact h0 (by grind)
    | exact h1 (by grind) (by grind)
    | refine zs k_Ro_hasPerson rfl ?_
    | refine ⟨Nat.zero_lt_one, rfl, ?_⟩
    | refine ⟨rfl, ?_⟩
    | refine ⟨⟨Nat.zero_lt_one, rfl⟩, Nat.le_of_ble_eq_true rfl, ?_⟩
    | refine ⟨Nat.le_of_ble_eq_true rfl, Nat.le_of_ble_eq_true rfl, ?_⟩
    | refine ⟨(by first | exact Nat.zero_lt_one | assumption | omega), (by first | assumption | exact vp_in_nI (by omega) (by omega) | (unfold vp_in; decide)), ?_⟩
    | refine ⟨(by first | exact Nat.zero_lt_one | assumption | omega), rfl, ?_⟩
    | refine ⟨⟨(by first | exact Nat.zero_lt_one | assumption | omega), rfl⟩, Nat.le_of_ble_eq_true rfl, ?_⟩
    | refine ⟨Or.inl rfl, ?_⟩
    | refine ⟨Or.inr (Or.inl rfl), ?_⟩
    | refine ⟨Or.inr (Or.inr rfl), ?_⟩
    | refine ⟨Or.inr ⟨rfl, (by first | exact Or.inl rfl | exact Or.inr rfl | assumption)⟩, ?_⟩
    | refine ⟨fun h => absurd h (by decide), fun _ => ?_⟩
    | refine ⟨fun _ => ?_, fun h => absurd h (by decide)⟩
    | refine ⟨fun h => ?_, fun h => ?_⟩
    | fail)
theorem c_Ro_isOfKind {d : Nat} {μ : zMu} {p k : Int32} {K : Option zV → zMu → Prop} (hp : vp_in p 20) (h1 : μ 17 p.toNatClampNeg 4 = k → K (some (zI 1)) μ) (h0 : ¬ μ 17 p.toNatClampNeg 4 = k → K (some (zI 0)) μ) : Ct d m_Ro_isOfKind [zR 1 0, zI p, zI k] μ K := by
  refine zmeet rfl (Nat.le_of_ble_eq_true rfl) (fun S => ?_)
  have hp2 := vp_lt hp
  repeat' (first
    | exact h0 (by assumption)
    | exact h1 (by assumption)
    | refine zs k_Ro_isOfKind rfl ?_
    | refine ⟨Nat.zero_lt_one, rfl, ?_⟩
    | refine ⟨rfl, ?_⟩
    | refine ⟨⟨Nat.zero_lt_one, rfl⟩, Nat.le_of_ble_eq_true rfl, ?_⟩
    | refine ⟨Nat.le_of_ble_eq_true rfl, Nat.le_of_ble_eq_true rfl, ?_⟩
    | refine ⟨(by first | exact Nat.zero_lt_one | assumption | omega), (by first | assumption | exact vp_in_nI (by omega) (by omega) | (unfold vp_in; decide)), ?_⟩
    | refine ⟨(by first | exact Nat.zero_lt_one | assumption | omega), rfl, ?_⟩
    | refine ⟨⟨(by first | exact Nat.zero_lt_one | assumption | omega), rfl⟩, Nat.le_of_ble_eq_true rfl, ?_⟩
    | refine ⟨Or.inl rfl, ?_⟩
    | refine ⟨Or.inr (Or.inl rfl), ?_⟩
    | refine ⟨Or.inr (Or.inr rfl), ?_⟩
    | refine ⟨Or.inr ⟨rfl, (by first | exact Or.inl rfl | exact Or.inr rfl | assumption)⟩, ?_⟩
    | refine ⟨fun h => absurd h (by decide), fun _ => ?_⟩
    | refine ⟨fun _ => ?_, fun h => absurd h (by decide)⟩
    | refine ⟨fun h => ?_, fun h => ?_⟩
    | fail)
theorem c_Ro_canBeOf {d : Nat} {μ : zMu} {k p : Int32} {K : Option zV → zMu → Prop} (hp : vp_in p 20) (h1 : μ 17 p.toNatClampNeg 4 = 0 ∨ (k = 3 ∧ μ 17 p.toNatClampNeg 4 = 2) → K (some (zI 1)) μ) (h0 : ¬ (μ 17 p.toNatClampNeg 4 = 0 ∨ (k = 3 ∧ μ 17 p.toNatClampNeg 4 = 2)) → K (some (zI 0)) μ) : Ct (d + 1) m_Ro_canBeOf [zR 1 0, zI k, zI p] μ K := by
  refine zmeet rfl (Nat.le_of_ble_eq_true rfl) (fun S => ?_)
  have hp2 := vp_lt hp
  repeat' (first
    | refine c_Ro_isOfKind hp (fun _ => ?_) (fun _ => ?_)
    | exact h0 (by grind)
    | exact h1 (by grind)
    | refine zs k_Ro_canBeOf rfl ?_
    | refine ⟨Nat.zero_lt_one, rfl, ?_⟩
    | refine ⟨rfl, ?_⟩
    | refine ⟨⟨Nat.zero_lt_one, rfl⟩, Nat.le_of_ble_eq_true rfl, ?_⟩
    | refine ⟨Nat.le_of_ble_eq_true rfl, Nat.le_of_ble_eq_true rfl, ?_⟩
    | refine ⟨(by first | exact Nat.zero_lt_one | assumption | omega), (by first | assumption | exact vp_in_nI (by omega) (by omega) | (unfold vp_in; decide)), ?_⟩
    | refine ⟨(by first | exact Nat.zero_lt_one | assumption | omega), rfl, ?_⟩
    | refine ⟨⟨(by first | exact Nat.zero_lt_one | assumption | omega), rfl⟩, Nat.le_of_ble_eq_true rfl, ?_⟩
    | refine ⟨Or.inl rfl, ?_⟩
    | refine ⟨Or.inr (Or.inl rfl), ?_⟩
    | refine ⟨Or.inr (Or.inr rfl), ?_⟩
    | refine ⟨Or.inr ⟨rfl, (by first | exact Or.inl rfl | exact Or.inr rfl | assumption)⟩, ?_⟩
    | refine ⟨fun h => absurd h (by decide), fun _ => ?_⟩
    | refine ⟨fun _ => ?_, fun h => absurd h (by decide)⟩
    | refine ⟨fun h => ?_, fun h => ?_⟩
    | fail)
theorem c_Ro_isSetOfPersons {d : Nat} {μ : zMu} {x : Int32} {K : Option zV → zMu → Prop} (h1 : (x.toUInt32 >>> ((μ 1 0 1).toUInt32 &&& Int32.toUInt32 31)).toInt32 = 0 → K (some (zI 1)) μ) (h0 : ¬ (x.toUInt32 >>> ((μ 1 0 1).toUInt32 &&& Int32.toUInt32 31)).toInt32 = 0 → K (some (zI 0)) μ) : Ct d m_Ro_isSetOfPersons [zR 1 0, zI x] μ K := by
  refine zmeet rfl (Nat.le_of_ble_eq_true rfl) (fun S => ?_)
  repeat' (first
    | exact h0 (by assumption)
    | exact h1 (by assumption)
    | refine zs k_Ro_isSetOfPersons rfl ?_
    | refine ⟨Nat.zero_lt_one, rfl, ?_⟩
    | refine ⟨rfl, ?_⟩
    | refine ⟨⟨Nat.zero_lt_one, rfl⟩, Nat.le_of_ble_eq_true rfl, ?_⟩
    | refine ⟨Nat.le_of_ble_eq_true rfl, Nat.le_of_ble_eq_true rfl, ?_⟩
    | refine ⟨(by first | exact Nat.zero_lt_one | assumption | omega), (by first | assumption | exact vp_in_nI (by omega) (by omega) | (unfold vp_in; decide)), ?_⟩
    | refine ⟨(by first | exact Nat.zero_lt_one | assumption | omega), rfl, ?_⟩
    | refine ⟨⟨(by first | exact Nat.zero_lt_one | assumption | omega), rfl⟩, Nat.le_of_ble_eq_true rfl, ?_⟩
    | refine ⟨Or.inl rfl, ?_⟩
    | refine ⟨Or.inr (Or.inl rfl), ?_⟩
    | refine ⟨Or.inr (Or.inr rfl), ?_⟩
    | refine ⟨Or.inr ⟨rfl, (by first | exact Or.inl rfl | exact Or.inr rfl | assumption)⟩, ?_⟩
    | refine ⟨fun h => absurd h (by decide), fun _ => ?_⟩
    | refine ⟨fun _ => ?_, fun h => absurd h (by decide)⟩
    | refine ⟨fun h => ?_, fun h => ?_⟩
    | fail)
/-- is p in the set -/
def zbit (x p : Int32) : Prop := (x.toUInt32 >>> (p.toUInt32 &&& Int32.toUInt32 31)).toInt32 &&& 1 = 1
theorem c_Ro_isIn {d : Nat} {μ : zMu} {x p : Int32} {K : Option zV → zMu → Prop} (h1 : zbit x p → K (some (zI 1)) μ) (h0 : ¬ zbit x p → K (some (zI 0)) μ) : Ct d m_Ro_isIn [zI x, zI p] μ K := by
  refine zmeet rfl (Nat.le_of_ble_eq_true rfl) (fun S => ?_)
  repeat' (first
    | exact h0 (by assumption)
    | exact h1 (by assumption)
    | refine zs k_Ro_isIn rfl ?_
    | refine ⟨Nat.zero_lt_one, rfl, ?_⟩
    | refine ⟨rfl, ?_⟩
    | refine ⟨⟨Nat.zero_lt_one, rfl⟩, Nat.le_of_ble_eq_true rfl, ?_⟩
    | refine ⟨Nat.le_of_ble_eq_true rfl, Nat.le_of_ble_eq_true rfl, ?_⟩
    | refine ⟨(by first | exact Nat.zero_lt_one | assumption | omega), (by first | assumption | exact vp_in_nI (by omega) (by omega) | (unfold vp_in; decide)), ?_⟩
    | refine ⟨(by first | exact Nat.zero_lt_one | assumption | omega), rfl, ?_⟩
    | refine ⟨⟨(by first | exact Nat.zero_lt_one | assumption | omega), rfl⟩, Nat.le_of_ble_eq_true rfl, ?_⟩
    | refine ⟨Or.inl rfl, ?_⟩
    | refine ⟨Or.inr (Or.inl rfl), ?_⟩
    | refine ⟨Or.inr (Or.inr rfl), ?_⟩
    | refine ⟨Or.inr ⟨rfl, (by first | exact Or.inl rfl | exact Or.inr rfl | assumption)⟩, ?_⟩
    | refine ⟨fun h => absurd h (by decide), fun _ => ?_⟩
    | refine ⟨fun _ => ?_, fun h => absurd h (by decide)⟩
    | refine ⟨fun h => ?_, fun h => ?_⟩
    | fail)
theorem c_Ro_addState {d : Nat} {μ : zMu} {x y : Int32} {K : Option zV → zMu → Prop} (hs : vp_in (μ 1 0 0) 10) (hK : K (some (zI (μ 1 0 0 + 1 - 1))) (zu (zu (zu μ 13 0 (μ 1 0 0).toNatClampNeg x) 14 0 (μ 1 0 0).toNatClampNeg y) 1 0 0 (μ 1 0 0 + 1))) : Ct d m_Ro_addState [zR 1 0, zI x, zI y] μ K := by
  refine zmeet rfl (Nat.le_of_ble_eq_true rfl) (fun S => ?_)
  repeat' (first
    | exact hK
    | refine zs k_Ro_addState rfl ?_
    | refine ⟨Nat.zero_lt_one, rfl, ?_⟩
    | refine ⟨rfl, ?_⟩
    | refine ⟨⟨Nat.zero_lt_one, rfl⟩, Nat.le_of_ble_eq_true rfl, ?_⟩
    | refine ⟨Nat.le_of_ble_eq_true rfl, Nat.le_of_ble_eq_true rfl, ?_⟩
    | refine ⟨(by first | exact Nat.zero_lt_one | assumption | omega), (by first | assumption | exact vp_in_nI (by omega) (by omega) | (unfold vp_in; decide)), ?_⟩
    | refine ⟨(by first | exact Nat.zero_lt_one | assumption | omega), rfl, ?_⟩
    | refine ⟨⟨(by first | exact Nat.zero_lt_one | assumption | omega), rfl⟩, Nat.le_of_ble_eq_true rfl, ?_⟩
    | refine ⟨Or.inl rfl, ?_⟩
    | refine ⟨Or.inr (Or.inl rfl), ?_⟩
    | refine ⟨Or.inr (Or.inr rfl), ?_⟩
    | refine ⟨Or.inr ⟨rfl, (by first | exact Or.inl rfl | exact Or.inr rfl | assumption)⟩, ?_⟩
    | refine ⟨fun h => absurd h (by decide), fun _ => ?_⟩
    | refine ⟨fun _ => ?_, fun h => absurd h (by decide)⟩
    | refine ⟨fun h => ?_, fun h => ?_⟩
    | fail)
def cOwn (μ : zMu) (p : Nat) : Int32 := if μ 17 p 4 = 0 ∧ μ 16 0 p = 0 then 9 else μ 15 0 p
theorem c_Ro_ownRankOf {d : Nat} {μ : zMu} {p : Int32} {K : Option zV → zMu → Prop} (hp : vp_in p 20) (hK : K (some (zI (cOwn μ p.toNatClampNeg))) μ) : Ct (d + 1) m_Ro_ownRankOf [zR 1 0, zI p] μ K := by
  refine zmeet rfl (Nat.le_of_ble_eq_true rfl) (fun S => ?_)
  have hp2 := vp_lt hp
  repeat' (first
    | refine c_Ro_isOfKind hp (fun _ => ?_) (fun _ => ?_)
    | exact (by rw [cOwn, if_neg (by grind)] at hK; exact hK)
    | exact (by rw [cOwn, if_pos (by grind)] at hK; exact hK)
    | refine zs k_Ro_ownRankOf rfl ?_
    | refine ⟨Nat.zero_lt_one, rfl, ?_⟩
    | refine ⟨rfl, ?_⟩
    | refine ⟨⟨Nat.zero_lt_one, rfl⟩, Nat.le_of_ble_eq_true rfl, ?_⟩
    | refine ⟨Nat.le_of_ble_eq_true rfl, Nat.le_of_ble_eq_true rfl, ?_⟩
    | refine ⟨(by first | exact Nat.zero_lt_one | assumption | omega), (by first | assumption | exact vp_in_nI (by omega) (by omega) | (unfold vp_in; decide)), ?_⟩
    | refine ⟨(by first | exact Nat.zero_lt_one | assumption | omega), rfl, ?_⟩
    | refine ⟨⟨(by first | exact Nat.zero_lt_one | assumption | omega), rfl⟩, Nat.le_of_ble_eq_true rfl, ?_⟩
    | refine ⟨Or.inl rfl, ?_⟩
    | refine ⟨Or.inr (Or.inl rfl), ?_⟩
    | refine ⟨Or.inr (Or.inr rfl), ?_⟩
    | refine ⟨Or.inr ⟨rfl, (by first | exact Or.inl rfl | exact Or.inr rfl | assumption)⟩, ?_⟩
    | refine ⟨fun h => absurd h (by decide), fun _ => ?_⟩
    | refine ⟨fun _ => ?_, fun h => absurd h (by decide)⟩
    | refine ⟨fun h => ?_, fun h => ?_⟩
    | fail)
theorem c_Ro_paperOf {d : Nat} {μ : zMu} {p : Int32} {K : Option zV → zMu → Prop} (hp : vp_in p 20) (hK : K (some (zI (if μ 16 0 p.toNatClampNeg = 0 then 99999999 else μ 16 0 p.toNatClampNeg))) μ) : Ct d m_Ro_paperOf [zR 1 0, zI p] μ K := by
  refine zmeet rfl (Nat.le_of_ble_eq_true rfl) (fun S => ?_)
  have hp2 := vp_lt hp
  repeat' (first
    | exact (by rw [if_neg (by assumption)] at hK; exact hK)
    | exact (by rw [if_pos (by assumption)] at hK; exact hK)
    | refine zs k_Ro_paperOf rfl ?_
    | refine ⟨Nat.zero_lt_one, rfl, ?_⟩
    | refine ⟨rfl, ?_⟩
    | refine ⟨⟨Nat.zero_lt_one, rfl⟩, Nat.le_of_ble_eq_true rfl, ?_⟩
    | refine ⟨Nat.le_of_ble_eq_true rfl, Nat.le_of_ble_eq_true rfl, ?_⟩
    | refine ⟨(by first | exact Nat.zero_lt_one | assumption | omega), (by first | assumption | exact vp_in_nI (by omega) (by omega) | (unfold vp_in; decide)), ?_⟩
    | refine ⟨(by first | exact Nat.zero_lt_one | assumption | omega), rfl, ?_⟩
    | refine ⟨⟨(by first | exact Nat.zero_lt_one | assumption | omega), rfl⟩, Nat.le_of_ble_eq_true rfl, ?_⟩
    | refine ⟨Or.inl rfl, ?_⟩
    | refine ⟨Or.inr (Or.inl rfl), ?_⟩
    | refine ⟨Or.inr (Or.inr rfl), ?_⟩
    | refine ⟨Or.inr ⟨rfl, (by first | exact Or.inl rfl | exact Or.inr rfl | assumption)⟩, ?_⟩
    | refine ⟨fun h => absurd h (by decide), fun _ => ?_⟩
    | refine ⟨fun _ => ?_, fun h => absurd h (by decide)⟩
    | refine ⟨fun h => ?_, fun h => ?_⟩
    | fail)
end
section
/-! ROLL: persons -/
theorem c_Jmath_min {d : Nat} {μ : zMu} {x y : Int32} {K : Option zV → zMu → Prop} (hK : K (some (zI (if y < x then y else x))) μ) : Ct d m_Jmath_min [zI x, zI y] μ K := by
  refine zmeetF pf_min (Nat.le_of_ble_eq_true rfl) (fun S => ?_)
  repeat' (first
    | exact (by rw [if_pos (by assumption)] at hK; exact hK)
    | exact (by rw [if_neg (by assumption)] at hK; exact hK)
    | refine zs k_Jmath_min rfl ?_
    | refine ⟨Nat.zero_lt_one, rfl, ?_⟩
    | refine ⟨rfl, ?_⟩
    | refine ⟨⟨Nat.zero_lt_one, rfl⟩, Nat.le_of_ble_eq_true rfl, ?_⟩
    | refine ⟨Nat.le_of_ble_eq_true rfl, Nat.le_of_ble_eq_true rfl, ?_⟩
    | refine ⟨(by first | exact Nat.zero_lt_one | assumption | omega), (by first | assumption | exact vp_in_nI (by omega) (by omega) | (unfold vp_in; decide)), ?_⟩
    | refine ⟨(by first | exact Nat.zero_lt_one | assumption | omega), rfl, ?_⟩
    | refine ⟨⟨(by first | exact Nat.zero_lt_one | assumption | omega), rfl⟩, Nat.le_of_ble_eq_true rfl, ?_⟩
    | refine ⟨Or.inl rfl, ?_⟩
    | refine ⟨Or.inr (Or.inl rfl), ?_⟩
    | refine ⟨Or.inr (Or.inr rfl), ?_⟩
    | refine ⟨Or.inr ⟨rfl, (by first | exact Or.inl rfl | exact Or.inr rfl | assumption)⟩, ?_⟩
    | refine ⟨fun h => absurd h (by decide), fun _ => ?_⟩
    | refine ⟨fun _ => ?_, fun h => absurd h (by decide)⟩
    | refine ⟨fun h => ?_, fun h => ?_⟩
    | fail)
theorem c_Jmath_max {d : Nat} {μ : zMu} {x y : Int32} {K : Option zV → zMu → Prop} (hK : K (some (zI (if x < y then y else x))) μ) : Ct d m_Jmath_max [zI x, zI y] μ K := by
  refine zmeetF pf_max (Nat.le_of_ble_eq_true rfl) (fun S => ?_)
  repeat' (first
    | exact (by rw [if_pos (by assumption)] at hK; exact hK)
    | exact (by rw [if_neg (by assumption)] at hK; exact hK)
    | refine zs k_Jmath_max rfl ?_
    | refine ⟨Nat.zero_lt_one, rfl, ?_⟩
    | refine ⟨rfl, ?_⟩
    | refine ⟨⟨Nat.zero_lt_one, rfl⟩, Nat.le_of_ble_eq_true rfl, ?_⟩
    | refine ⟨Nat.le_of_ble_eq_true rfl, Nat.le_of_ble_eq_true rfl, ?_⟩
    | refine ⟨(by first | exact Nat.zero_lt_one | assumption | omega), (by first | assumption | exact vp_in_nI (by omega) (by omega) | (unfold vp_in; decide)), ?_⟩
    | refine ⟨(by first | exact Nat.zero_lt_one | assumption | omega), rfl, ?_⟩
    | refine ⟨⟨(by first | exact Nat.zero_lt_one | assumption | omega), rfl⟩, Nat.le_of_ble_eq_true rfl, ?_⟩
    | refine ⟨Or.inl rfl, ?_⟩
    | refine ⟨Or.inr (Or.inl rfl), ?_⟩
    | refine ⟨Or.inr (Or.inr rfl), ?_⟩
    | refine ⟨Or.inr ⟨rfl, (by first | exact Or.inl rfl | exact Or.inr rfl | assumption)⟩, ?_⟩
    | refine ⟨fun h => absurd h (by decide), fun _ => ?_⟩
    | refine ⟨fun _ => ?_, fun h => absurd h (by decide)⟩
    | refine ⟨fun h => ?_, fun h => ?_⟩
    | fail)
theorem c_Jmath_abs {d : Nat} {μ : zMu} {x : Int32} {K : Option zV → zMu → Prop} (hK : K (some (zI (if 0 ≤ x then x else -x))) μ) : Ct d m_Jmath_abs [zI x] μ K := by
  refine zmeetF pf_abs (Nat.le_of_ble_eq_true rfl) (fun S => ?_)
  repeat' (first
    | exact (by rw [if_pos (by assumption)] at hK; exact hK)
    | exact (by rw [if_neg (by assumption)] at hK; exact hK)
    | refine zs k_Jmath_abs rfl ?_
    | refine ⟨Nat.zero_lt_one, rfl, ?_⟩
    | refine ⟨rfl, ?_⟩
    | refine ⟨⟨Nat.zero_lt_one, rfl⟩, Nat.le_of_ble_eq_true rfl, ?_⟩
    | refine ⟨Nat.le_of_ble_eq_true rfl, Nat.le_of_ble_eq_true rfl, ?_⟩
    | refine ⟨(by first | exact Nat.zero_lt_one | assumption | omega), (by first | assumption | exact vp_in_nI (by omega) (by omega) | (unfold vp_in; decide)), ?_⟩
    | refine ⟨(by first | exact Nat.zero_lt_one | assumption | omega), rfl, ?_⟩
    | refine ⟨⟨(by first | exact Nat.zero_lt_one | assumption | omega), rfl⟩, Nat.le_of_ble_eq_true rfl, ?_⟩
    | refine ⟨Or.inl rfl, ?_⟩
    | refine ⟨Or.inr (Or.inl rfl), ?_⟩
    | refine ⟨Or.inr (Or.inr rfl), ?_⟩
    | refine ⟨Or.inr ⟨rfl, (by first | exact Or.inl rfl | exact Or.inr rfl | assumption)⟩, ?_⟩
    | refine ⟨fun h => absurd h (by decide), fun _ => ?_⟩
    | refine ⟨fun _ => ?_, fun h => absurd h (by decide)⟩
    | refine ⟨fun h => ?_, fun h => ?_⟩
    | fail)
def cRank (μ : zMu) (p : Nat) : Int32 := if μ 17 p 4 = 3 then cOwn μ (μ 11 0 p).toNatClampNeg else if μ 17 p 4 = 4 then (if 9 < cOwn μ (μ 11 0 p).toNatClampNeg + 1 then 9 else cOwn μ (μ 11 0 p).toNatClampNeg + 1) else cOwn μ p
def cPq (μ : zMu) (p : Nat) : Nat := if μ 17 p 4 = 3 then (μ 11 0 p).toNatClampNeg else p
def cPap (μ : zMu) (p : Nat) : Int32 := if μ 16 0 (cPq μ p) = 0 then 99999999 else μ 16 0 (cPq μ p)
/-- a person that is of another has one -/
def cOf (μ : zMu) (p : Nat) : Prop := (μ 17 p 4 = 3 ∨ μ 17 p 4 = 4) → vp_in (μ 11 0 p) 20
theorem i32_ne {x : Int32} {c : Int32} (h : ¬ x.toInt = c.toInt) : ¬ x = c := fun e => h (congrArg Int32.toInt e)
theorem i32_inj {x : Int32} {c : Int32} (h : x.toInt = c.toInt) : x = c := Int32.toInt_inj.mp h
theorem c_Ro_rankOf {d : Nat} {μ : zMu} {p : Int32} {K : Option zV → zMu → Prop} (hp : vp_in p 20) (ho : cOf μ p.toNatClampNeg) (hK : K (some (zI (cRank μ p.toNatClampNeg))) μ) : Ct (d + 2) m_Ro_rankOf [zR 1 0, zI p] μ K := by
  refine zmeet rfl (Nat.le_of_ble_eq_true rfl) (fun S => ?_)
  have hp2 := vp_lt hp
  unfold cRank at hK
  repeat' (first
    | refine c_Ro_ownRankOf hp ?_
    | refine c_Ro_ownRankOf (ho (Or.inl (i32_inj (by assumption)))) ?_
    | refine c_Ro_ownRankOf (ho (Or.inr (i32_inj (by assumption)))) ?_
    | refine c_Jmath_min ?_
    | exact (by rw [if_pos (i32_inj (by assumption))] at hK; exact hK)
    | exact (by rw [if_neg (i32_ne (by assumption)), if_pos (i32_inj (by assumption))] at hK; exact hK)
    | exact (by rw [if_neg (i32_ne (by assumption)), if_neg (i32_ne (by assumption))] at hK; exact hK)
    | refine zs k_Ro_rankOf rfl ?_
    | refine ⟨Nat.zero_lt_one, rfl, ?_⟩
    | refine ⟨rfl, ?_⟩
    | refine ⟨⟨Nat.zero_lt_one, rfl⟩, Nat.le_of_ble_eq_true rfl, ?_⟩
    | refine ⟨Nat.le_of_ble_eq_true rfl, Nat.le_of_ble_eq_true rfl, ?_⟩
    | refine ⟨(by first | exact Nat.zero_lt_one | assumption | omega), (by first | assumption | exact vp_in_nI (by omega) (by omega) | (unfold vp_in; decide)), ?_⟩
    | refine ⟨(by first | exact Nat.zero_lt_one | assumption | omega), rfl, ?_⟩
    | refine ⟨⟨(by first | exact Nat.zero_lt_one | assumption | omega), rfl⟩, Nat.le_of_ble_eq_true rfl, ?_⟩
    | refine ⟨Or.inl rfl, ?_⟩
    | refine ⟨Or.inr (Or.inl rfl), ?_⟩
    | refine ⟨Or.inr (Or.inr rfl), ?_⟩
    | refine ⟨Or.inr ⟨rfl, (by first | exact Or.inl rfl | exact Or.inr rfl | assumption)⟩, ?_⟩
    | refine ⟨fun h => absurd h (by decide), fun _ => ?_⟩
    | refine ⟨fun _ => ?_, fun h => absurd h (by decide)⟩
    | refine ⟨fun h => ?_, fun h => ?_⟩
    | fail)
theorem c_Ro_refreshFields {d : Nat} {μ : zMu} {p : Int32} {K : Option zV → zMu → Prop} (hp : vp_in p 20) (ho : cOf μ p.toNatClampNeg) (hK : K none (zu (zu μ 17 p.toNatClampNeg 0 (cRank μ p.toNatClampNeg)) 17 p.toNatClampNeg 1 (cPap μ p.toNatClampNeg))) : Ct (d + 3) m_Ro_refreshFields [zR 1 0, zI p] μ K := by
  refine zmeet rfl (Nat.le_of_ble_eq_true rfl) (fun S => ?_)
  have hp2 := vp_lt hp
  repeat' (first
    | refine c_Ro_rankOf hp ho ?_
    | refine c_Ro_isOfKind hp (fun hk => ?_) (fun hk => ?_)
    | refine c_Ro_paperOf (ho (Or.inl hk)) ?_
    | refine c_Ro_paperOf hp ?_
    | exact (by rw [cPap, show cPq μ p.toNatClampNeg = (μ 11 0 p.toNatClampNeg).toNatClampNeg from if_pos hk] at hK; exact hK)
    | exact (by rw [cPap, show cPq μ p.toNatClampNeg = p.toNatClampNeg from if_neg hk] at hK; exact hK)
    | refine zs k_Ro_refreshFields rfl ?_
    | refine ⟨Nat.zero_lt_one, rfl, ?_⟩
    | refine ⟨rfl, ?_⟩
    | refine ⟨⟨Nat.zero_lt_one, rfl⟩, Nat.le_of_ble_eq_true rfl, ?_⟩
    | refine ⟨Nat.le_of_ble_eq_true rfl, Nat.le_of_ble_eq_true rfl, ?_⟩
    | refine ⟨(by first | exact Nat.zero_lt_one | assumption | omega), (by first | assumption | exact vp_in_nI (by omega) (by omega) | (unfold vp_in; decide)), ?_⟩
    | refine ⟨(by first | exact Nat.zero_lt_one | assumption | omega), rfl, ?_⟩
    | refine ⟨⟨(by first | exact Nat.zero_lt_one | assumption | omega), rfl⟩, Nat.le_of_ble_eq_true rfl, ?_⟩
    | refine ⟨Or.inl rfl, ?_⟩
    | refine ⟨Or.inr (Or.inl rfl), ?_⟩
    | refine ⟨Or.inr (Or.inr rfl), ?_⟩
    | refine ⟨Or.inr ⟨rfl, (by first | exact Or.inl rfl | exact Or.inr rfl | assumption)⟩, ?_⟩
    | refine ⟨fun h => absurd h (by decide), fun _ => ?_⟩
    | refine ⟨fun _ => ?_, fun h => absurd h (by decide)⟩
    | refine ⟨fun h => ?_, fun h => ?_⟩
    | fail)
theorem c_Ro_setHome {d : Nat} {μ : zMu} {p q : Int32} {K : Option zV → zMu → Prop} (hp : vp_in p 20) (hq : vp_in q 10) (hK : K none (zu (zu (zu μ 17 p.toNatClampNeg 5 q) 17 p.toNatClampNeg 2 (μ 13 0 q.toNatClampNeg)) 17 p.toNatClampNeg 6 (μ 14 0 q.toNatClampNeg))) : Ct d m_Ro_setHome [zR 1 0, zI p, zI q] μ K := by
  refine zmeet rfl (Nat.le_of_ble_eq_true rfl) (fun S => ?_)
  have hp2 := vp_lt hp
  repeat' (first
    | exact hK
    | refine zs k_Ro_setHome rfl ?_
    | refine ⟨Nat.zero_lt_one, rfl, ?_⟩
    | refine ⟨rfl, ?_⟩
    | refine ⟨⟨Nat.zero_lt_one, rfl⟩, Nat.le_of_ble_eq_true rfl, ?_⟩
    | refine ⟨Nat.le_of_ble_eq_true rfl, Nat.le_of_ble_eq_true rfl, ?_⟩
    | refine ⟨(by first | exact Nat.zero_lt_one | assumption | omega), (by first | assumption | exact vp_in_nI (by omega) (by omega) | (unfold vp_in; decide)), ?_⟩
    | refine ⟨(by first | exact Nat.zero_lt_one | assumption | omega), rfl, ?_⟩
    | refine ⟨⟨(by first | exact Nat.zero_lt_one | assumption | omega), rfl⟩, Nat.le_of_ble_eq_true rfl, ?_⟩
    | refine ⟨Or.inl rfl, ?_⟩
    | refine ⟨Or.inr (Or.inl rfl), ?_⟩
    | refine ⟨Or.inr (Or.inr rfl), ?_⟩
    | refine ⟨Or.inr ⟨rfl, (by first | exact Or.inl rfl | exact Or.inr rfl | assumption)⟩, ?_⟩
    | refine ⟨fun h => absurd h (by decide), fun _ => ?_⟩
    | refine ⟨fun _ => ?_, fun h => absurd h (by decide)⟩
    | refine ⟨fun h => ?_, fun h => ?_⟩
    | fail)

/-- behind a new person's own numbers -/
def cNew (μ : zMu) (n : Nat) (home kind rank since of : Int32) : zMu := zu (zu (zu (zu (zu (zu (zu (zu (zu (zu μ 1 0 1 (μ 1 0 1 + 1)) 17 n 4 kind) 17 n 3 since) 15 0 n rank) 16 0 n 0) 11 0 n of) 10 0 n 1) 17 n 5 home) 17 n 2 (μ 13 0 home.toNatClampNeg)) 17 n 6 (μ 14 0 home.toNatClampNeg)
theorem c_Ro_addPerson {d : Nat} {μ : zMu} {home kind rank since of : Int32} {K : Option zV → zMu → Prop} (hp : vp_in (μ 1 0 1) 20) (hh : vp_in home 10) (ho : cOf (cNew μ (μ 1 0 1).toNatClampNeg home kind rank since of) (μ 1 0 1).toNatClampNeg)
    (hK : K (some (zI (μ 1 0 1))) (zu (zu (cNew μ (μ 1 0 1).toNatClampNeg home kind rank since of) 17 (μ 1 0 1).toNatClampNeg 0 (cRank (cNew μ (μ 1 0 1).toNatClampNeg home kind rank since of) (μ 1 0 1).toNatClampNeg)) 17 (μ 1 0 1).toNatClampNeg 1 (cPap (cNew μ (μ 1 0 1).toNatClampNeg home kind rank since of) (μ 1 0 1).toNatClampNeg))) : Ct (d + 4) m_Ro_addPerson [zR 1 0, zI home, zI kind, zI rank, zI since, zI of] μ K := by
  refine zmeet rfl (Nat.le_of_ble_eq_true rfl) (fun S => ?_)
  have hp2 := vp_lt hp
  repeat' (first
    | refine c_Ro_setHome hp hh ?_
    | refine c_Ro_refreshFields (p := μ 1 0 1) hp ho ?_
    | exact hK
    | refine zs k_Ro_addPerson rfl ?_
    | refine ⟨Nat.zero_lt_one, rfl, ?_⟩
    | refine ⟨rfl, ?_⟩
    | refine ⟨⟨Nat.zero_lt_one, rfl⟩, Nat.le_of_ble_eq_true rfl, ?_⟩
    | refine ⟨Nat.le_of_ble_eq_true rfl, Nat.le_of_ble_eq_true rfl, ?_⟩
    | refine ⟨(by first | exact Nat.zero_lt_one | assumption | omega), (by first | assumption | exact vp_in_nI (by omega) (by omega) | (unfold vp_in; decide)), ?_⟩
    | refine ⟨(by first | exact Nat.zero_lt_one | assumption | omega), rfl, ?_⟩
    | refine ⟨⟨(by first | exact Nat.zero_lt_one | assumption | omega), rfl⟩, Nat.le_of_ble_eq_true rfl, ?_⟩
    | refine ⟨Or.inl rfl, ?_⟩
    | refine ⟨Or.inr (Or.inl rfl), ?_⟩
    | refine ⟨Or.inr (Or.inr rfl), ?_⟩
    | refine ⟨Or.inr ⟨rfl, (by first | exact Or.inl rfl | exact Or.inr rfl | assumption)⟩, ?_⟩
    | refine ⟨fun h => absurd h (by decide), fun _ => ?_⟩
    | refine ⟨fun _ => ?_, fun h => absurd h (by decide)⟩
    | refine ⟨fun h => ?_, fun h => ?_⟩
    | fail)
end
section
/-! ROLL: loops -/
def cPres (μ : zMu) : Nat → Int32
  | 0 => 0
  | i + 1 => cPres μ i + μ 10 0 i
theorem c_Ro_countPresent {d n : Nat} {μ : zMu} {K : Option zV → zMu → Prop} (hn : μ 1 0 1 = nI n) (h20 : n ≤ 20) (hK : K (some (zI (cPres μ n))) μ) : Ct d m_Ro_countPresent [zR 1 0] μ K := by
  refine zmeet rfl (Nat.le_of_ble_eq_true rfl) (fun S => ?_)
  have L : ∀ (k i : Nat) (f x : Int32), i + k = n → f = cPres μ i → x = nI i → zG S d m_Ro_countPresent K 4 [some (zR 1 0), some (zI f), some (zI x)] [] μ := by
    intro k
    induction k with
    | zero =>
      intro i f x hi hf hx
      subst hf hx
      obtain rfl : i = n := by omega
      repeat' (first
        | exact hK
        | refine zs k_Ro_countPresent rfl ?_
        | refine br_t (by simp (disch := omega) only [hn, nI_leI, nI_ltI, nI_eq]; omega) ?_
        | refine br_f (by simp (disch := omega) only [hn, nI_leI, nI_ltI, nI_eq]; omega) ?_
        | refine ⟨Nat.zero_lt_one, rfl, ?_⟩
        | refine ⟨rfl, ?_⟩
        | refine ⟨⟨Nat.zero_lt_one, rfl⟩, Nat.le_of_ble_eq_true rfl, ?_⟩
        | refine ⟨Nat.le_of_ble_eq_true rfl, Nat.le_of_ble_eq_true rfl, ?_⟩
        | refine ⟨(by first | exact Nat.zero_lt_one | assumption | omega), (by first | assumption | exact vp_in_nI (by omega) (by omega) | (unfold vp_in; decide)), ?_⟩
        | refine ⟨(by first | exact Nat.zero_lt_one | assumption | omega), rfl, ?_⟩
        | refine ⟨⟨(by first | exact Nat.zero_lt_one | assumption | omega), rfl⟩, Nat.le_of_ble_eq_true rfl, ?_⟩
        | refine ⟨Or.inl rfl, ?_⟩
        | refine ⟨Or.inr (Or.inl rfl), ?_⟩
        | refine ⟨Or.inr (Or.inr rfl), ?_⟩
        | refine ⟨Or.inr ⟨rfl, (by first | exact Or.inl rfl | exact Or.inr rfl | assumption)⟩, ?_⟩
        | refine ⟨fun h => absurd h (by decide), fun _ => ?_⟩
        | refine ⟨fun _ => ?_, fun h => absurd h (by decide)⟩
        | refine ⟨fun h => ?_, fun h => ?_⟩
        | fail)
    | succ k ih =>
      intro i f x hi hf hx
      subst hf hx
      repeat' (first
        | exact ih (i + 1) _ _ (by omega) (by rw [cPres, nI_clamp (by omega)]) (nI_1 i)
        | refine zs k_Ro_countPresent rfl ?_
        | refine br_t (by simp (disch := omega) only [hn, nI_leI, nI_ltI, nI_eq]; omega) ?_
        | refine br_f (by simp (disch := omega) only [hn, nI_leI, nI_ltI, nI_eq]; omega) ?_
        | refine ⟨Nat.zero_lt_one, rfl, ?_⟩
        | refine ⟨rfl, ?_⟩
        | refine ⟨⟨Nat.zero_lt_one, rfl⟩, Nat.le_of_ble_eq_true rfl, ?_⟩
        | refine ⟨Nat.le_of_ble_eq_true rfl, Nat.le_of_ble_eq_true rfl, ?_⟩
        | refine ⟨(by first | exact Nat.zero_lt_one | assumption | omega), (by first | assumption | exact vp_in_nI (by omega) (by omega) | (unfold vp_in; decide)), ?_⟩
        | refine ⟨(by first | exact Nat.zero_lt_one | assumption | omega), rfl, ?_⟩
        | refine ⟨⟨(by first | exact Nat.zero_lt_one | assumption | omega), rfl⟩, Nat.le_of_ble_eq_true rfl, ?_⟩
        | refine ⟨Or.inl rfl, ?_⟩
        | refine ⟨Or.inr (Or.inl rfl), ?_⟩
        | refine ⟨Or.inr (Or.inr rfl), ?_⟩
        | refine ⟨Or.inr ⟨rfl, (by first | exact Or.inl rfl | exact Or.inr rfl | assumption)⟩, ?_⟩
        | refine ⟨fun h => absurd h (by decide), fun _ => ?_⟩
        | refine ⟨fun _ => ?_, fun h => absurd h (by decide)⟩
        | refine ⟨fun h => ?_, fun h => ?_⟩
        | fail)
  repeat' (first
    | exact L n 0 _ _ (by omega) rfl rfl
    | refine zs k_Ro_countPresent rfl ?_
    | refine ⟨Nat.zero_lt_one, rfl, ?_⟩
    | refine ⟨rfl, ?_⟩
    | refine ⟨⟨Nat.zero_lt_one, rfl⟩, Nat.le_of_ble_eq_true rfl, ?_⟩
    | refine ⟨Nat.le_of_ble_eq_true rfl, Nat.le_of_ble_eq_true rfl, ?_⟩
    | refine ⟨(by first | exact Nat.zero_lt_one | assumption | omega), (by first | assumption | exact vp_in_nI (by omega) (by omega) | (unfold vp_in; decide)), ?_⟩
    | refine ⟨(by first | exact Nat.zero_lt_one | assumption | omega), rfl, ?_⟩
    | refine ⟨⟨(by first | exact Nat.zero_lt_one | assumption | omega), rfl⟩, Nat.le_of_ble_eq_true rfl, ?_⟩
    | refine ⟨Or.inl rfl, ?_⟩
    | refine ⟨Or.inr (Or.inl rfl), ?_⟩
    | refine ⟨Or.inr (Or.inr rfl), ?_⟩
    | refine ⟨Or.inr ⟨rfl, (by first | exact Or.inl rfl | exact Or.inr rfl | assumption)⟩, ?_⟩
    | refine ⟨fun h => absurd h (by decide), fun _ => ?_⟩
    | refine ⟨fun _ => ?_, fun h => absurd h (by decide)⟩
    | refine ⟨fun h => ?_, fun h => ?_⟩
    | fail)
/-- all of a set are there -/
def cAll (μ : zMu) (x : Int32) (n : Nat) : Prop := ∀ i, i < n → zbit x (nI i) → ¬ μ 10 0 i = 0
theorem c_Ro_areAllPresent {d n : Nat} {μ : zMu} {x : Int32} {K : Option zV → zMu → Prop} (hn : μ 1 0 1 = nI n) (h20 : n ≤ 20) (h1 : cAll μ x n → K (some (zI 1)) μ) (h0 : ¬ cAll μ x n → K (some (zI 0)) μ) : Ct (d + 1) m_Ro_areAllPresent [zR 1 0, zI x] μ K := by
  refine zmeet rfl (Nat.le_of_ble_eq_true rfl) (fun S => ?_)
  have L : ∀ (k i : Nat) (y : Int32), i + k = n → y = nI i → cAll μ x i → zG S (d + 1) m_Ro_areAllPresent K 2 [some (zR 1 0), some (zI x), some (zI y)] [] μ := by
    intro k
    induction k with
    | zero =>
      intro i y hi hy ha
      subst hy
      obtain rfl : i = n := by omega
      repeat' (first
        | exact h1 ha
        | refine zs k_Ro_areAllPresent rfl ?_
        | refine br_t (by simp (disch := omega) only [hn, nI_leI, nI_ltI, nI_eq]; omega) ?_
        | refine br_f (by simp (disch := omega) only [hn, nI_leI, nI_ltI, nI_eq]; omega) ?_
        | refine ⟨Nat.zero_lt_one, rfl, ?_⟩
        | refine ⟨rfl, ?_⟩
        | refine ⟨⟨Nat.zero_lt_one, rfl⟩, Nat.le_of_ble_eq_true rfl, ?_⟩
        | refine ⟨Nat.le_of_ble_eq_true rfl, Nat.le_of_ble_eq_true rfl, ?_⟩
        | refine ⟨(by first | exact Nat.zero_lt_one | assumption | omega), (by first | assumption | exact vp_in_nI (by omega) (by omega) | (unfold vp_in; decide)), ?_⟩
        | refine ⟨(by first | exact Nat.zero_lt_one | assumption | omega), rfl, ?_⟩
        | refine ⟨⟨(by first | exact Nat.zero_lt_one | assumption | omega), rfl⟩, Nat.le_of_ble_eq_true rfl, ?_⟩
        | refine ⟨Or.inl rfl, ?_⟩
        | refine ⟨Or.inr (Or.inl rfl), ?_⟩
        | refine ⟨Or.inr (Or.inr rfl), ?_⟩
        | refine ⟨Or.inr ⟨rfl, (by first | exact Or.inl rfl | exact Or.inr rfl | assumption)⟩, ?_⟩
        | refine ⟨fun h => absurd h (by decide), fun _ => ?_⟩
        | refine ⟨fun _ => ?_, fun h => absurd h (by decide)⟩
        | refine ⟨fun h => ?_, fun h => ?_⟩
        | fail)
    | succ k ih =>
      intro i y hi hy ha
      subst hy
      have hcl : (nI i).toNatClampNeg = i := nI_clamp (by omega)
      repeat' (first
        | refine c_Ro_isIn (fun hb => ?_) (fun hb => ?_)
        | exact ih (i + 1) _ (by omega) (nI_1 i) (lt_s ha (by rw [hcl] at *; intro; first | assumption | contradiction))
        | exact h0 (fun q => q i (by omega) (by assumption) (by rw [hcl] at *; assumption))
        | refine zs k_Ro_areAllPresent rfl ?_
        | refine br_t (by simp (disch := omega) only [hn, nI_leI, nI_ltI, nI_eq]; omega) ?_
        | refine br_f (by simp (disch := omega) only [hn, nI_leI, nI_ltI, nI_eq]; omega) ?_
        | refine ⟨Nat.zero_lt_one, rfl, ?_⟩
        | refine ⟨rfl, ?_⟩
        | refine ⟨⟨Nat.zero_lt_one, rfl⟩, Nat.le_of_ble_eq_true rfl, ?_⟩
        | refine ⟨Nat.le_of_ble_eq_true rfl, Nat.le_of_ble_eq_true rfl, ?_⟩
        | refine ⟨(by first | exact Nat.zero_lt_one | assumption | omega), (by first | assumption | exact vp_in_nI (by omega) (by omega) | (unfold vp_in; decide)), ?_⟩
        | refine ⟨(by first | exact Nat.zero_lt_one | assumption | omega), rfl, ?_⟩
        | refine ⟨⟨(by first | exact Nat.zero_lt_one | assumption | omega), rfl⟩, Nat.le_of_ble_eq_true rfl, ?_⟩
        | refine ⟨Or.inl rfl, ?_⟩
        | refine ⟨Or.inr (Or.inl rfl), ?_⟩
        | refine ⟨Or.inr (Or.inr rfl), ?_⟩
        | refine ⟨Or.inr ⟨rfl, (by first | exact Or.inl rfl | exact Or.inr rfl | assumption)⟩, ?_⟩
        | refine ⟨fun h => absurd h (by decide), fun _ => ?_⟩
        | refine ⟨fun _ => ?_, fun h => absurd h (by decide)⟩
        | refine ⟨fun h => ?_, fun h => ?_⟩
        | fail)
  repeat' (first
    | exact L n 0 _ (by omega) rfl (fun i hi => absurd hi (by omega))
    | refine zs k_Ro_areAllPresent rfl ?_
    | refine ⟨Nat.zero_lt_one, rfl, ?_⟩
    | refine ⟨rfl, ?_⟩
    | refine ⟨⟨Nat.zero_lt_one, rfl⟩, Nat.le_of_ble_eq_true rfl, ?_⟩
    | refine ⟨Nat.le_of_ble_eq_true rfl, Nat.le_of_ble_eq_true rfl, ?_⟩
    | refine ⟨(by first | exact Nat.zero_lt_one | assumption | omega), (by first | assumption | exact vp_in_nI (by omega) (by omega) | (unfold vp_in; decide)), ?_⟩
    | refine ⟨(by first | exact Nat.zero_lt_one | assumption | omega), rfl, ?_⟩
    | refine ⟨⟨(by first | exact Nat.zero_lt_one | assumption | omega), rfl⟩, Nat.le_of_ble_eq_true rfl, ?_⟩
    | refine ⟨Or.inl rfl, ?_⟩
    | refine ⟨Or.inr (Or.inl rfl), ?_⟩
    | refine ⟨Or.inr (Or.inr rfl), ?_⟩
    | refine ⟨Or.inr ⟨rfl, (by first | exact Or.inl rfl | exact Or.inr rfl | assumption)⟩, ?_⟩
    | refine ⟨fun h => absurd h (by decide), fun _ => ?_⟩
    | refine ⟨fun _ => ?_, fun h => absurd h (by decide)⟩
    | refine ⟨fun h => ?_, fun h => ?_⟩
    | fail)
end
section
/-! RULES: what both sides say, in one form. rT: not, isB, field, sign, number; rU: occasion (-1 any), key, down, any, from, to, how many tests, tests -/
abbrev rT : Type := Int32 × Int32 × Int32 × Int32 × Int32
abbrev rU : Type := Int32 × Int32 × Int32 × Int32 × Int32 × Int32 × Nat × (Nat → rT)
def pIs (s v n : Int32) : Bool := if s = 0 then decide (v = n) else if s = 1 then decide (v < n) else decide (n < v)
def pTest (F : Nat → Nat → Int32) (t : rT) (a b : Nat) : Bool := pIs t.2.2.2.1 (F (if t.2.1 = 0 then a else b) t.2.2.1.toNatClampNeg) t.2.2.2.2 != decide (t.1 = 1)
def pAll (F : Nat → Nat → Int32) (u : rU) (a b : Nat) : Nat → Bool
  | 0 => true
  | j + 1 => pAll F u a b j && pTest F (u.2.2.2.2.2.2.2 j) a b
def pAny (F : Nat → Nat → Int32) (u : rU) (a b : Nat) : Nat → Bool
  | 0 => false
  | j + 1 => pAny F u a b j || pTest F (u.2.2.2.2.2.2.2 j) a b
def pHolds (F : Nat → Nat → Int32) (u : rU) (a b : Nat) : Bool := if u.2.2.2.1 = 0 then pAll F u a b u.2.2.2.2.2.2.1 else pAny F u a b u.2.2.2.2.2.2.1
abbrev pFor (u : rU) (o day : Int32) : Prop := u.2.2.2.2.1 ≤ day ∧ day < u.2.2.2.2.2.1 ∧ (u.1 = -1 ∨ u.1 = o)
def pV (F : Nat → Nat → Int32) (u : rU) (o day : Int32) (x y : Nat) : Int32 :=
  if F x u.2.1.toNatClampNeg = F y u.2.1.toNatClampNeg ∨ ¬ (u.2.2.2.2.1 ≤ day ∧ day < u.2.2.2.2.2.1 ∧ (u.1 = -1 ∨ u.1 = o)) ∨ (pHolds F u x y = false ∧ pHolds F u y x = false) then 0
  else if (F x u.2.1.toNatClampNeg < F y u.2.1.toNatClampNeg ↔ u.2.2.1 = 1) then -1 else 1
-- the class's rules
def cRu (μ : zMu) (r : Nat) : rU := (μ 8 r 0, μ 8 r 1, μ 8 r 2, μ 8 r 3, μ 8 r 5, μ 8 r 6, (μ 8 r 4).toNatClampNeg, fun j => (μ 22 r j, μ 23 r j, μ 24 r j, μ 25 r j, μ 26 r j))
def cF (μ : zMu) (p f : Nat) : Int32 := μ 17 p f
def cRok (μ : zMu) (r : Nat) : Prop := vp_in (μ 8 r 1) 7 ∧ (∃ n, n ≤ 4 ∧ μ 8 r 4 = nI n) ∧ (μ 8 r 2 = 0 ∨ μ 8 r 2 = 1) ∧ (μ 8 r 3 = 0 ∨ μ 8 r 3 = 1) ∧ ∀ j, j < (μ 8 r 4).toNatClampNeg → vp_in (μ 24 r j) 7 ∧ (μ 22 r j = 0 ∨ μ 22 r j = 1)
theorem c_Ru_isFor {d r : Nat} {μ : zMu} {o y : Int32} {K : Option zV → zMu → Prop} (hr : r < 16) (h1 : pFor (cRu μ r) o y → K (some (zI 1)) μ) (h0 : ¬ pFor (cRu μ r) o y → K (some (zI 0)) μ) : Ct d m_Ru_isFor [zR 8 r, zI o, zI y] μ K := by
  refine zmeet rfl (Nat.le_of_ble_eq_true rfl) (fun S => ?_)
  unfold pFor at h1 h0
  dsimp only [cRu] at h1 h0
  repeat' (first
    | exact h0 (by grind)
    | exact h1 (by grind)
    | refine zs k_Ru_isFor rfl ?_
    | refine ⟨Nat.zero_lt_one, rfl, ?_⟩
    | refine ⟨rfl, ?_⟩
    | refine ⟨⟨Nat.zero_lt_one, rfl⟩, Nat.le_of_ble_eq_true rfl, ?_⟩
    | refine ⟨Nat.le_of_ble_eq_true rfl, Nat.le_of_ble_eq_true rfl, ?_⟩
    | refine ⟨(by first | exact Nat.zero_lt_one | assumption | omega), (by first | assumption | exact vp_in_nI (by omega) (by omega) | (unfold vp_in; decide)), ?_⟩
    | refine ⟨(by first | exact Nat.zero_lt_one | assumption | omega), rfl, ?_⟩
    | refine ⟨⟨(by first | exact Nat.zero_lt_one | assumption | omega), rfl⟩, Nat.le_of_ble_eq_true rfl, ?_⟩
    | refine ⟨Or.inl rfl, ?_⟩
    | refine ⟨Or.inr (Or.inl rfl), ?_⟩
    | refine ⟨Or.inr (Or.inr rfl), ?_⟩
    | refine ⟨Or.inr ⟨rfl, (by first | exact Or.inl rfl | exact Or.inr rfl | assumption)⟩, ?_⟩
    | refine ⟨fun h => absurd h (by decide), fun _ => ?_⟩
    | refine ⟨fun _ => ?_, fun h => absurd h (by decide)⟩
    | refine ⟨fun h => ?_, fun h => ?_⟩
    | fail)
theorem c_Ru_isAsTold {d r j : Nat} {μ : zMu} {v : Int32} {K : Option zV → zMu → Prop} (hr : r < 16) (hj : j < 4) (h1 : pIs (μ 25 r j) v (μ 26 r j) = true → K (some (zI 1)) μ) (h0 : pIs (μ 25 r j) v (μ 26 r j) = false → K (some (zI 0)) μ) : Ct d m_Ru_isAsTold [zR 8 r, zI (nI j), zI v] μ K := by
  refine zmeet rfl (Nat.le_of_ble_eq_true rfl) (fun S => ?_)
  have hc : (nI j).toNatClampNeg = j := nI_clamp (by omega)
  have e0 : ∀ x : Int32, x.toInt = 0 ↔ x = 0 := fun x => ⟨fun h => i32_inj h, fun h => by rw [h]; rfl⟩
  have e1 : ∀ x : Int32, x.toInt = 1 ↔ x = 1 := fun x => ⟨fun h => i32_inj h, fun h => by rw [h]; rfl⟩
  repeat' (first
    | exact h0 (by simp only [hc, e0, e1] at *; simp only [pIs]; grind)
    | exact h1 (by simp only [hc, e0, e1] at *; simp only [pIs]; grind)
    | refine zs k_Ru_isAsTold rfl ?_
    | refine ⟨Nat.zero_lt_one, rfl, ?_⟩
    | refine ⟨rfl, ?_⟩
    | refine ⟨⟨Nat.zero_lt_one, rfl⟩, Nat.le_of_ble_eq_true rfl, ?_⟩
    | refine ⟨Nat.le_of_ble_eq_true rfl, Nat.le_of_ble_eq_true rfl, ?_⟩
    | refine ⟨(by first | exact Nat.zero_lt_one | assumption | omega), (by first | assumption | exact vp_in_nI (by omega) (by omega) | (unfold vp_in; decide)), ?_⟩
    | refine ⟨(by first | exact Nat.zero_lt_one | assumption | omega), rfl, ?_⟩
    | refine ⟨⟨(by first | exact Nat.zero_lt_one | assumption | omega), rfl⟩, Nat.le_of_ble_eq_true rfl, ?_⟩
    | refine ⟨Or.inl rfl, ?_⟩
    | refine ⟨Or.inr (Or.inl rfl), ?_⟩
    | refine ⟨Or.inr (Or.inr rfl), ?_⟩
    | refine ⟨Or.inr ⟨rfl, (by first | exact Or.inl rfl | exact Or.inr rfl | assumption)⟩, ?_⟩
    | refine ⟨fun h => absurd h (by decide), fun _ => ?_⟩
    | refine ⟨fun _ => ?_, fun h => absurd h (by decide)⟩
    | refine ⟨fun h => ?_, fun h => ?_⟩
    | fail)
theorem pAll_no {F : Nat → Nat → Int32} {u : rU} {a b : Nat} {j : Nat} (h : pAll F u a b j = false) : ∀ n, j ≤ n → pAll F u a b n = false
  | 0, hn => by
    obtain rfl : j = 0 := by omega
    exact h
  | n + 1, hn => by
    rcases Nat.lt_or_ge n j with q | q
    · obtain rfl : j = n + 1 := by omega
      exact h
    · rw [pAll, pAll_no h n q, Bool.false_and]
theorem pAny_yes {F : Nat → Nat → Int32} {u : rU} {a b : Nat} {j : Nat} (h : pAny F u a b j = true) : ∀ n, j ≤ n → pAny F u a b n = true
  | 0, hn => by
    obtain rfl : j = 0 := by omega
    exact h
  | n + 1, hn => by
    rcases Nat.lt_or_ge n j with q | q
    · obtain rfl : j = n + 1 := by omega
      exact h
    · rw [pAny, pAny_yes h n q, Bool.true_or]
set_option maxHeartbeats 4000000 in
theorem c_Ru_holds {d r : Nat} {μ : zMu} {x y : Int32} {K : Option zV → zMu → Prop} (hr : r < 16) (hok : cRok μ r) (hx : vp_in x 20) (hy : vp_in y 20) (h1 : pHolds (cF μ) (cRu μ r) x.toNatClampNeg y.toNatClampNeg = true → K (some (zI 1)) μ) (h0 : pHolds (cF μ) (cRu μ r) x.toNatClampNeg y.toNatClampNeg = false → K (some (zI 0)) μ) : Ct (d + 1) m_Ru_holds [zR 8 r, zR 1 0, zI x, zI y] μ K := by
  refine zmeet rfl (Nat.le_of_ble_eq_true rfl) (fun S => ?_)
  obtain ⟨hkey, ⟨nt, hnt4, hnt⟩, hdown, hany, htst⟩ := hok
  have hx2 := vp_lt hx
  have hy2 := vp_lt hy
  have hnt2 : (μ 8 r 4).toNatClampNeg = nt := by rw [hnt, nI_clamp (by omega)]
  rw [hnt2] at htst
  have hH0 : μ 8 r 3 = 0 → pHolds (cF μ) (cRu μ r) x.toNatClampNeg y.toNatClampNeg = pAll (cF μ) (cRu μ r) x.toNatClampNeg y.toNatClampNeg nt := fun h => by
    rw [← hnt2]
    exact if_pos h
  have hH1 : μ 8 r 3 = 1 → pHolds (cF μ) (cRu μ r) x.toNatClampNeg y.toNatClampNeg = pAny (cF μ) (cRu μ r) x.toNatClampNeg y.toNatClampNeg nt := fun h => by
    rw [← hnt2]
    exact if_neg (show ¬ μ 8 r 3 = 0 by rw [h]; decide)
  have L : ∀ (k j : Nat) (v : Int32) (l5 l6 : Option zV), j + k = nt → v = nI j → (μ 8 r 3 = 0 → pAll (cF μ) (cRu μ r) x.toNatClampNeg y.toNatClampNeg j = true) → (μ 8 r 3 = 1 → pAny (cF μ) (cRu μ r) x.toNatClampNeg y.toNatClampNeg j = false) → zG S (d + 1) m_Ru_holds K 3 [some (zR 8 r), some (zR 1 0), some (zI x), some (zI y), some (zI v), l5, l6] [] μ := by
    intro k
    induction k with
    | zero =>
      intro j v l5 l6 hj hv hA hO
      subst hv
      obtain rfl : j = nt := by omega
      repeat' (first
        | exact h1 (by rw [hH0 (by assumption)]; exact hA (by assumption))
        | exact h0 (by rw [hH1 (by grind)]; exact hO (by grind))
        | refine zs k_Ru_holds rfl ?_
        | refine br_t (by simp (disch := omega) only [hnt, nI_leI, nI_ltI, nI_eq]; omega) ?_
        | refine br_f (by simp (disch := omega) only [hnt, nI_leI, nI_ltI, nI_eq]; omega) ?_
        | refine ⟨Nat.zero_lt_one, rfl, ?_⟩
        | refine ⟨rfl, ?_⟩
        | refine ⟨⟨Nat.zero_lt_one, rfl⟩, Nat.le_of_ble_eq_true rfl, ?_⟩
        | refine ⟨Nat.le_of_ble_eq_true rfl, Nat.le_of_ble_eq_true rfl, ?_⟩
        | refine ⟨(by first | exact Nat.zero_lt_one | assumption | omega), (by first | assumption | exact vp_in_nI (by omega) (by omega) | (unfold vp_in; decide)), ?_⟩
        | refine ⟨(by first | exact Nat.zero_lt_one | assumption | omega), rfl, ?_⟩
        | refine ⟨⟨(by first | exact Nat.zero_lt_one | assumption | omega), rfl⟩, Nat.le_of_ble_eq_true rfl, ?_⟩
        | refine ⟨Or.inl rfl, ?_⟩
        | refine ⟨Or.inr (Or.inl rfl), ?_⟩
        | refine ⟨Or.inr (Or.inr rfl), ?_⟩
        | refine ⟨Or.inr ⟨rfl, (by first | exact Or.inl rfl | exact Or.inr rfl | assumption)⟩, ?_⟩
        | refine ⟨fun h => absurd h (by decide), fun _ => ?_⟩
        | refine ⟨fun _ => ?_, fun h => absurd h (by decide)⟩
        | refine ⟨fun h => ?_, fun h => ?_⟩
        | fail)
    | succ k ih =>
      intro j v l5 l6 hj hv hA hO
      subst hv
      have hc : (nI j).toNatClampNeg = j := nI_clamp (by omega)
      obtain ⟨hf0, hn01⟩ := htst j (by omega)
      have hf : vp_in (μ 24 r (nI j).toNatClampNeg) 7 := by rw [hc]; exact hf0
      have hT : pTest (cF μ) ((cRu μ r).2.2.2.2.2.2.2 j) x.toNatClampNeg y.toNatClampNeg = (pIs (μ 25 r j) (μ 17 (if μ 23 r j = 0 then x.toNatClampNeg else y.toNatClampNeg) (μ 24 r j).toNatClampNeg) (μ 26 r j) != decide (μ 22 r j = 1)) := rfl
      have hA1 : pAll (cF μ) (cRu μ r) x.toNatClampNeg y.toNatClampNeg (j + 1) = (pAll (cF μ) (cRu μ r) x.toNatClampNeg y.toNatClampNeg j && pTest (cF μ) ((cRu μ r).2.2.2.2.2.2.2 j) x.toNatClampNeg y.toNatClampNeg) := rfl
      have hO1 : pAny (cF μ) (cRu μ r) x.toNatClampNeg y.toNatClampNeg (j + 1) = (pAny (cF μ) (cRu μ r) x.toNatClampNeg y.toNatClampNeg j || pTest (cF μ) ((cRu μ r).2.2.2.2.2.2.2 j) x.toNatClampNeg y.toNatClampNeg) := rfl
      have hAn : pAll (cF μ) (cRu μ r) x.toNatClampNeg y.toNatClampNeg (j + 1) = false → pAll (cF μ) (cRu μ r) x.toNatClampNeg y.toNatClampNeg nt = false := fun h => pAll_no h nt (by omega)
      have hOn : pAny (cF μ) (cRu μ r) x.toNatClampNeg y.toNatClampNeg (j + 1) = true → pAny (cF μ) (cRu μ r) x.toNatClampNeg y.toNatClampNeg nt = true := fun h => pAny_yes h nt (by omega)
      repeat' (first
        | refine c_Ru_isAsTold hr (by omega) (fun hp => ?_) (fun hp => ?_)
        | refine ih (j + 1) _ _ _ (by omega) (nI_1 j) (by rw [hc] at *; grind) (by rw [hc] at *; grind)
        | exact h1 (by rw [hc] at *; grind)
        | exact h0 (by rw [hc] at *; grind)
        | refine zs k_Ru_holds rfl ?_
        | refine br_t (by simp (disch := omega) only [hnt, nI_leI, nI_ltI, nI_eq]; omega) ?_
        | refine br_f (by simp (disch := omega) only [hnt, nI_leI, nI_ltI, nI_eq]; omega) ?_
        | refine ⟨Nat.zero_lt_one, rfl, ?_⟩
        | refine ⟨rfl, ?_⟩
        | refine ⟨⟨Nat.zero_lt_one, rfl⟩, Nat.le_of_ble_eq_true rfl, ?_⟩
        | refine ⟨Nat.le_of_ble_eq_true rfl, Nat.le_of_ble_eq_true rfl, ?_⟩
        | refine ⟨(by first | exact Nat.zero_lt_one | assumption | omega), (by first | assumption | exact vp_in_nI (by omega) (by omega) | (unfold vp_in; decide)), ?_⟩
        | refine ⟨(by first | exact Nat.zero_lt_one | assumption | omega), rfl, ?_⟩
        | refine ⟨⟨(by first | exact Nat.zero_lt_one | assumption | omega), rfl⟩, Nat.le_of_ble_eq_true rfl, ?_⟩
        | refine ⟨Or.inl rfl, ?_⟩
        | refine ⟨Or.inr (Or.inl rfl), ?_⟩
        | refine ⟨Or.inr (Or.inr rfl), ?_⟩
        | refine ⟨Or.inr ⟨rfl, (by first | exact Or.inl rfl | exact Or.inr rfl | assumption)⟩, ?_⟩
        | refine ⟨fun h => absurd h (by decide), fun _ => ?_⟩
        | refine ⟨fun _ => ?_, fun h => absurd h (by decide)⟩
        | refine ⟨fun h => ?_, fun h => ?_⟩
        | fail)
  repeat' (first
    | exact L nt 0 _ _ _ (by omega) rfl (fun _ => rfl) (fun _ => rfl)
    | refine zs k_Ru_holds rfl ?_
    | refine ⟨Nat.zero_lt_one, rfl, ?_⟩
    | refine ⟨rfl, ?_⟩
    | refine ⟨⟨Nat.zero_lt_one, rfl⟩, Nat.le_of_ble_eq_true rfl, ?_⟩
    | refine ⟨Nat.le_of_ble_eq_true rfl, Nat.le_of_ble_eq_true rfl, ?_⟩
    | refine ⟨(by first | exact Nat.zero_lt_one | assumption | omega), (by first | assumption | exact vp_in_nI (by omega) (by omega) | (unfold vp_in; decide)), ?_⟩
    | refine ⟨(by first | exact Nat.zero_lt_one | assumption | omega), rfl, ?_⟩
    | refine ⟨⟨(by first | exact Nat.zero_lt_one | assumption | omega), rfl⟩, Nat.le_of_ble_eq_true rfl, ?_⟩
    | refine ⟨Or.inl rfl, ?_⟩
    | refine ⟨Or.inr (Or.inl rfl), ?_⟩
    | refine ⟨Or.inr (Or.inr rfl), ?_⟩
    | refine ⟨Or.inr ⟨rfl, (by first | exact Or.inl rfl | exact Or.inr rfl | assumption)⟩, ?_⟩
    | refine ⟨fun h => absurd h (by decide), fun _ => ?_⟩
    | refine ⟨fun _ => ?_, fun h => absurd h (by decide)⟩
    | refine ⟨fun h => ?_, fun h => ?_⟩
    | fail)
end
section
/-! a rule's verdict -/
theorem c_Ru_verdict {d r : Nat} {μ : zMu} {o day x y : Int32} {K : Option zV → zMu → Prop} (hr : r < 16) (hok : cRok μ r) (hx : vp_in x 20) (hy : vp_in y 20) (hK : K (some (zI (pV (cF μ) (cRu μ r) o day x.toNatClampNeg y.toNatClampNeg))) μ) : Ct (d + 2) m_Ru_verdict [zR 8 r, zR 1 0, zI o, zI day, zI x, zI y] μ K := by
  refine zmeet rfl (Nat.le_of_ble_eq_true rfl) (fun S => ?_)
  have hx2 := vp_lt hx
  have hy2 := vp_lt hy
  have hkey := hok.1
  have hV : pV (cF μ) (cRu μ r) o day x.toNatClampNeg y.toNatClampNeg = (if μ 17 x.toNatClampNeg (μ 8 r 1).toNatClampNeg = μ 17 y.toNatClampNeg (μ 8 r 1).toNatClampNeg ∨ ¬ pFor (cRu μ r) o day ∨ (pHolds (cF μ) (cRu μ r) x.toNatClampNeg y.toNatClampNeg = false ∧ pHolds (cF μ) (cRu μ r) y.toNatClampNeg x.toNatClampNeg = false) then 0 else if (μ 17 x.toNatClampNeg (μ 8 r 1).toNatClampNeg < μ 17 y.toNatClampNeg (μ 8 r 1).toNatClampNeg ↔ μ 8 r 2 = 1) then -1 else 1) := rfl
  have hdn := hok.2.2.1
  have hK' : ∀ v : Int32, v = pV (cF μ) (cRu μ r) o day x.toNatClampNeg y.toNatClampNeg → K (some (zI v)) μ := fun v h => by rw [h]; exact hK
  repeat' (first
    | refine c_Ru_isFor hr (fun hp => ?_) (fun hp => ?_)
    | refine c_Ru_holds hr hok hx hy (fun hp => ?_) (fun hp => ?_)
    | refine c_Ru_holds hr hok hy hx (fun hp => ?_) (fun hp => ?_)
    | exact hK' _ (by rw [hV]; grind)
    | refine zs k_Ru_verdict rfl ?_
    | refine ⟨Nat.zero_lt_one, rfl, ?_⟩
    | refine ⟨rfl, ?_⟩
    | refine ⟨⟨Nat.zero_lt_one, rfl⟩, Nat.le_of_ble_eq_true rfl, ?_⟩
    | refine ⟨Nat.le_of_ble_eq_true rfl, Nat.le_of_ble_eq_true rfl, ?_⟩
    | refine ⟨(by first | exact Nat.zero_lt_one | assumption | omega), (by first | assumption | exact vp_in_nI (by omega) (by omega) | (unfold vp_in; decide)), ?_⟩
    | refine ⟨(by first | exact Nat.zero_lt_one | assumption | omega), rfl, ?_⟩
    | refine ⟨⟨(by first | exact Nat.zero_lt_one | assumption | omega), rfl⟩, Nat.le_of_ble_eq_true rfl, ?_⟩
    | refine ⟨Or.inl rfl, ?_⟩
    | refine ⟨Or.inr (Or.inl rfl), ?_⟩
    | refine ⟨Or.inr (Or.inr rfl), ?_⟩
    | refine ⟨Or.inr ⟨rfl, (by first | exact Or.inl rfl | exact Or.inr rfl | assumption)⟩, ?_⟩
    | refine ⟨fun h => absurd h (by decide), fun _ => ?_⟩
    | refine ⟨fun _ => ?_, fun h => absurd h (by decide)⟩
    | refine ⟨fun h => ?_, fun h => ?_⟩
    | fail)
end
section
/-! RULEBOOK -/
theorem i32_m1 (x : Int32) : x + (-1) = x - 1 := by grind
/-- the first place of n for which P holds, else -1 -/
def pFst (P : Nat → Bool) : Nat → Int32
  | 0 => -1
  | n + 1 => if pFst P n = -1 then (if P n then nI n else -1) else pFst P n
theorem nI_nem1 {n : Nat} (h : n < 2 ^ 31) : ¬ nI n = -1 := fun e => nI_pos h (by rw [e]; decide)
theorem pFst_none {P : Nat → Bool} : ∀ {n : Nat}, (∀ r, r < n → P r = false) → pFst P n = -1
  | 0, _ => rfl
  | n + 1, h => by
    rw [pFst, if_pos (pFst_none (fun r hr => h r (by omega))), h n (by omega)]
    rfl
theorem pFst_hit {P : Nat → Bool} {i : Nat} (h : ∀ r, r < i → P r = false) (hi : P i = true) (hb : i < 2 ^ 31) : ∀ {n : Nat}, i < n → pFst P n = nI i
  | 0, hn => absurd hn (by omega)
  | n + 1, hn => by
    rcases Nat.lt_or_ge i n with q | q
    · rw [pFst, pFst_hit h hi hb q, if_neg (nI_nem1 hb)]
    · obtain rfl : i = n := by omega
      rw [pFst, if_pos (pFst_none h), hi]
      rfl
theorem c_Bo_hasRule {d : Nat} {μ : zMu} {x : Int32} {K : Option zV → zMu → Prop} (h1 : 0 ≤ x → x < μ 3 0 0 → K (some (zI 1)) μ) (h0 : ¬ (0 ≤ x ∧ x < μ 3 0 0) → K (some (zI 0)) μ) : Ct d m_Bo_hasRule [zR 3 0, zI x] μ K := by
  refine zmeet rfl (Nat.le_of_ble_eq_true rfl) (fun S => ?_)
  repeat' (first
    | exact h0 (by grind)
    | exact h1 (by grind) (by grind)
    | refine zs k_Bo_hasRule rfl ?_
    | refine ⟨Nat.zero_lt_one, rfl, ?_⟩
    | refine ⟨rfl, ?_⟩
    | refine ⟨⟨Nat.zero_lt_one, rfl⟩, Nat.le_of_ble_eq_true rfl, ?_⟩
    | refine ⟨Nat.le_of_ble_eq_true rfl, Nat.le_of_ble_eq_true rfl, ?_⟩
    | refine ⟨(by first | exact Nat.zero_lt_one | assumption | omega), (by first | assumption | exact vp_in_nI (by omega) (by omega) | (unfold vp_in; decide)), ?_⟩
    | refine ⟨(by first | exact Nat.zero_lt_one | assumption | omega), rfl, ?_⟩
    | refine ⟨⟨(by first | exact Nat.zero_lt_one | assumption | omega), rfl⟩, Nat.le_of_ble_eq_true rfl, ?_⟩
    | refine ⟨Or.inl rfl, ?_⟩
    | refine ⟨Or.inr (Or.inl rfl), ?_⟩
    | refine ⟨Or.inr (Or.inr rfl), ?_⟩
    | refine ⟨Or.inr ⟨rfl, (by first | exact Or.inl rfl | exact Or.inr rfl | assumption)⟩, ?_⟩
    | refine ⟨fun h => absurd h (by decide), fun _ => ?_⟩
    | refine ⟨fun _ => ?_, fun h => absurd h (by decide)⟩
    | refine ⟨fun h => ?_, fun h => ?_⟩
    | fail)
theorem c_Bo_addHand {d : Nat} {μ : zMu} {x y : Int32} {K : Option zV → zMu → Prop} (hs : vp_in (μ 3 0 1) 20) (hK : K (some (zI (μ 3 0 1 + 1))) (zu (zu (zu μ 20 0 (μ 3 0 1).toNatClampNeg x) 21 0 (μ 3 0 1).toNatClampNeg y) 3 0 1 (μ 3 0 1 + 1))) : Ct d m_Bo_addHand [zR 3 0, zI x, zI y] μ K := by
  refine zmeet rfl (Nat.le_of_ble_eq_true rfl) (fun S => ?_)
  repeat' (first
    | exact hK
    | refine zs k_Bo_addHand rfl ?_
    | refine ⟨Nat.zero_lt_one, rfl, ?_⟩
    | refine ⟨rfl, ?_⟩
    | refine ⟨⟨Nat.zero_lt_one, rfl⟩, Nat.le_of_ble_eq_true rfl, ?_⟩
    | refine ⟨Nat.le_of_ble_eq_true rfl, Nat.le_of_ble_eq_true rfl, ?_⟩
    | refine ⟨(by first | exact Nat.zero_lt_one | assumption | omega), (by first | assumption | exact vp_in_nI (by omega) (by omega) | (unfold vp_in; decide)), ?_⟩
    | refine ⟨(by first | exact Nat.zero_lt_one | assumption | omega), rfl, ?_⟩
    | refine ⟨⟨(by first | exact Nat.zero_lt_one | assumption | omega), rfl⟩, Nat.le_of_ble_eq_true rfl, ?_⟩
    | refine ⟨Or.inl rfl, ?_⟩
    | refine ⟨Or.inr (Or.inl rfl), ?_⟩
    | refine ⟨Or.inr (Or.inr rfl), ?_⟩
    | refine ⟨Or.inr ⟨rfl, (by first | exact Or.inl rfl | exact Or.inr rfl | assumption)⟩, ?_⟩
    | refine ⟨fun h => absurd h (by decide), fun _ => ?_⟩
    | refine ⟨fun _ => ?_, fun h => absurd h (by decide)⟩
    | refine ⟨fun h => ?_, fun h => ?_⟩
    | fail)
/-- what the hands say: the latest of several -/
def pHand (hx hy : Nat → Int32) (x y : Int32) : Nat → Int32
  | 0 => 0
  | k + 1 => if hx k = x ∧ hy k = y then 1 else if hx k = y ∧ hy k = x then -1 else pHand hx hy x y k
theorem c_Bo_toldByHand {d n : Nat} {μ : zMu} {x y : Int32} {K : Option zV → zMu → Prop} (hn : μ 3 0 1 = nI n) (h20 : n ≤ 20) (hK : K (some (zI (pHand (μ 20 0) (μ 21 0) x y n))) μ) : Ct d m_Bo_toldByHand [zR 3 0, zI x, zI y] μ K := by
  refine zmeet rfl (Nat.le_of_ble_eq_true rfl) (fun S => ?_)
  generalize hRv : pHand (μ 20 0) (μ 21 0) x y n = Rv at hK
  have L : ∀ (i : Nat) (v : Int32), i ≤ n → v = nI i - 1 → pHand (μ 20 0) (μ 21 0) x y i = Rv → zG S d m_Bo_toldByHand K 7 [some (zR 3 0), some (zI x), some (zI y), some (zI v)] [] μ := by
    intro i
    induction i with
    | zero =>
      intro v hi hv hh
      subst hv
      rw [← hh] at hK
      refine zs k_Bo_toldByHand rfl ?_
      repeat' (first
        | refine br_t (by decide) ?_
        | exact hK
        | refine zs k_Bo_toldByHand rfl ?_
        | refine ⟨Nat.zero_lt_one, rfl, ?_⟩
        | refine ⟨rfl, ?_⟩
        | refine ⟨⟨Nat.zero_lt_one, rfl⟩, Nat.le_of_ble_eq_true rfl, ?_⟩
        | refine ⟨Nat.le_of_ble_eq_true rfl, Nat.le_of_ble_eq_true rfl, ?_⟩
        | refine ⟨(by first | exact Nat.zero_lt_one | assumption | omega), (by first | assumption | exact vp_in_nI (by omega) (by omega) | (unfold vp_in; decide)), ?_⟩
        | refine ⟨(by first | exact Nat.zero_lt_one | assumption | omega), rfl, ?_⟩
        | refine ⟨⟨(by first | exact Nat.zero_lt_one | assumption | omega), rfl⟩, Nat.le_of_ble_eq_true rfl, ?_⟩
        | refine ⟨Or.inl rfl, ?_⟩
        | refine ⟨Or.inr (Or.inl rfl), ?_⟩
        | refine ⟨Or.inr (Or.inr rfl), ?_⟩
        | refine ⟨Or.inr ⟨rfl, (by first | exact Or.inl rfl | exact Or.inr rfl | assumption)⟩, ?_⟩
        | refine ⟨fun h => absurd h (by decide), fun _ => ?_⟩
        | refine ⟨fun _ => ?_, fun h => absurd h (by decide)⟩
        | refine ⟨fun h => ?_, fun h => ?_⟩
        | fail)
    | succ i ih =>
      intro v hi hv hh
      subst hv
      rw [nI_pred]
      have hc : (nI i).toNatClampNeg = i := nI_clamp (by omega)
      rw [← hh] at hK
      unfold pHand at hK hh
      refine zs k_Bo_toldByHand rfl ?_
      repeat' (first
        | refine br_f (nI_pos (by omega)) ?_
        | refine ih _ (by omega) (by exact i32_m1 _) (by rw [← hh]; rw [hc] at *; grind)
        | exact (by rw [hc] at *; rw [if_pos (by grind)] at hK; exact hK)
        | exact (by rw [hc] at *; rw [if_neg (by grind), if_pos (by grind)] at hK; exact hK)
        | refine zs k_Bo_toldByHand rfl ?_
        | refine ⟨Nat.zero_lt_one, rfl, ?_⟩
        | refine ⟨rfl, ?_⟩
        | refine ⟨⟨Nat.zero_lt_one, rfl⟩, Nat.le_of_ble_eq_true rfl, ?_⟩
        | refine ⟨Nat.le_of_ble_eq_true rfl, Nat.le_of_ble_eq_true rfl, ?_⟩
        | refine ⟨(by first | exact Nat.zero_lt_one | assumption | omega), (by first | assumption | exact vp_in_nI (by omega) (by omega) | (unfold vp_in; decide)), ?_⟩
        | refine ⟨(by first | exact Nat.zero_lt_one | assumption | omega), rfl, ?_⟩
        | refine ⟨⟨(by first | exact Nat.zero_lt_one | assumption | omega), rfl⟩, Nat.le_of_ble_eq_true rfl, ?_⟩
        | refine ⟨Or.inl rfl, ?_⟩
        | refine ⟨Or.inr (Or.inl rfl), ?_⟩
        | refine ⟨Or.inr (Or.inr rfl), ?_⟩
        | refine ⟨Or.inr ⟨rfl, (by first | exact Or.inl rfl | exact Or.inr rfl | assumption)⟩, ?_⟩
        | refine ⟨fun h => absurd h (by decide), fun _ => ?_⟩
        | refine ⟨fun _ => ?_, fun h => absurd h (by decide)⟩
        | refine ⟨fun h => ?_, fun h => ?_⟩
        | fail)
  repeat' (first
    | exact L n _ (Nat.le_refl n) (by rw [hn]) hRv
    | refine zs k_Bo_toldByHand rfl ?_
    | refine ⟨Nat.zero_lt_one, rfl, ?_⟩
    | refine ⟨rfl, ?_⟩
    | refine ⟨⟨Nat.zero_lt_one, rfl⟩, Nat.le_of_ble_eq_true rfl, ?_⟩
    | refine ⟨Nat.le_of_ble_eq_true rfl, Nat.le_of_ble_eq_true rfl, ?_⟩
    | refine ⟨(by first | exact Nat.zero_lt_one | assumption | omega), (by first | assumption | exact vp_in_nI (by omega) (by omega) | (unfold vp_in; decide)), ?_⟩
    | refine ⟨(by first | exact Nat.zero_lt_one | assumption | omega), rfl, ?_⟩
    | refine ⟨⟨(by first | exact Nat.zero_lt_one | assumption | omega), rfl⟩, Nat.le_of_ble_eq_true rfl, ?_⟩
    | refine ⟨Or.inl rfl, ?_⟩
    | refine ⟨Or.inr (Or.inl rfl), ?_⟩
    | refine ⟨Or.inr (Or.inr rfl), ?_⟩
    | refine ⟨Or.inr ⟨rfl, (by first | exact Or.inl rfl | exact Or.inr rfl | assumption)⟩, ?_⟩
    | refine ⟨fun h => absurd h (by decide), fun _ => ?_⟩
    | refine ⟨fun _ => ?_, fun h => absurd h (by decide)⟩
    | refine ⟨fun h => ?_, fun h => ?_⟩
    | fail)

/-- the rule that goes: with a digit ahead of *, of like ones the greatest number -/
def pGo (V oc : Nat → Int32) : Nat → Int32
  | 0 => -1
  | r + 1 => if V r = 0 then pGo V oc r else if pGo V oc r = -1 ∨ ¬ oc r = -1 ∨ oc (pGo V oc r).toNatClampNeg = -1 then nI r else pGo V oc r
/-- the same, from the greatest number down -/
def pGoC (V oc : Nat → Int32) (g : Int32) : Nat → Int32
  | 0 => g
  | i + 1 => if (oc i = -1 ∧ ¬ g = -1) ∨ V i = 0 then pGoC V oc g i else if ¬ oc i = -1 then nI i else pGoC V oc (nI i) i
theorem pGoC_eq (V oc : Nat → Int32) : ∀ (i : Nat), i ≤ 16 → ∀ (g : Int32), pGoC V oc g i = if ¬ pGo V oc i = -1 ∧ ¬ oc (pGo V oc i).toNatClampNeg = -1 then pGo V oc i else if ¬ g = -1 then g else pGo V oc i
  | 0, _, g => by
    simp only [pGoC, pGo]
    grind
  | i + 1, hi, g => by
    have h0 := pGoC_eq V oc i (by omega)
    have hc : (nI i).toNatClampNeg = i := nI_clamp (by omega)
    have hm : ¬ nI i = -1 := nI_nem1 (by omega)
    simp only [pGoC, pGo, h0]
    grind
theorem pGoC_0 {V oc : Nat → Int32} {n : Nat} (h : n ≤ 16) : pGoC V oc (-1) n = pGo V oc n := by
  rw [pGoC_eq V oc n h]
  grind
theorem pGo_in {V oc : Nat → Int32} : ∀ {n : Nat}, n ≤ 16 → pGo V oc n = -1 ∨ ∃ r, r < n ∧ pGo V oc n = nI r ∧ ¬ V r = 0
  | 0, _ => Or.inl rfl
  | n + 1, h => by
    have h0 := pGo_in (V := V) (oc := oc) (n := n) (by omega)
    simp only [pGo]
    split
    · rcases h0 with h0 | ⟨r, h1, h2, h3⟩
      · exact Or.inl h0
      · exact Or.inr ⟨r, by omega, h2, h3⟩
    · split
      · exact Or.inr ⟨n, by omega, rfl, by assumption⟩
      · rcases h0 with h0 | ⟨r, h1, h2, h3⟩
        · exact Or.inl h0
        · exact Or.inr ⟨r, by omega, h2, h3⟩
def cV (μ : zMu) (o day : Int32) (x y : Nat) (r : Nat) : Int32 := pV (cF μ) (cRu μ r) o day x y
def cOc (μ : zMu) (r : Nat) : Int32 := μ 8 r 0
theorem c_Bo_goingRule {d n : Nat} {μ : zMu} {o day x y : Int32} {K : Option zV → zMu → Prop} (hn : μ 3 0 0 = nI n) (h16 : n ≤ 16) (hok : ∀ r, r < n → cRok μ r) (hx : vp_in x 20) (hy : vp_in y 20) (hK : K (some (zI (pGo (cV μ o day x.toNatClampNeg y.toNatClampNeg) (cOc μ) n))) μ) : Ct (d + 3) m_Bo_goingRule [zR 3 0, zI o, zI day, zI x, zI y] μ K := by
  refine zmeet rfl (Nat.le_of_ble_eq_true rfl) (fun S => ?_)
  rw [← pGoC_0 h16] at hK
  generalize hRv : pGoC (cV μ o day x.toNatClampNeg y.toNatClampNeg) (cOc μ) (-1) n = Rv at hK
  have L : ∀ (i : Nat) (v g : Int32) (l7 : Option zV), i ≤ n → v = nI i - 1 → pGoC (cV μ o day x.toNatClampNeg y.toNatClampNeg) (cOc μ) g i = Rv → zG S (d + 3) m_Bo_goingRule K 11 [some (zR 3 0), some (zI o), some (zI day), some (zI x), some (zI y), some (zI g), some (zI v), l7] [] μ := by
    intro i
    induction i with
    | zero =>
      intro v g l7 hi hv hh
      subst hv
      rw [← hh] at hK
      refine zs k_Bo_goingRule rfl ?_
      repeat' (first
        | refine br_t (by decide) ?_
        | exact hK
        | refine zs k_Bo_goingRule rfl ?_
        | refine ⟨Nat.zero_lt_one, rfl, ?_⟩
        | refine ⟨rfl, ?_⟩
        | refine ⟨⟨Nat.zero_lt_one, rfl⟩, Nat.le_of_ble_eq_true rfl, ?_⟩
        | refine ⟨Nat.le_of_ble_eq_true rfl, Nat.le_of_ble_eq_true rfl, ?_⟩
        | refine ⟨(by first | exact Nat.zero_lt_one | assumption | omega), (by first | assumption | exact vp_in_nI (by omega) (by omega) | (unfold vp_in; decide)), ?_⟩
        | refine ⟨(by first | exact Nat.zero_lt_one | assumption | omega), rfl, ?_⟩
        | refine ⟨⟨(by first | exact Nat.zero_lt_one | assumption | omega), rfl⟩, Nat.le_of_ble_eq_true rfl, ?_⟩
        | refine ⟨Or.inl rfl, ?_⟩
        | refine ⟨Or.inr (Or.inl rfl), ?_⟩
        | refine ⟨Or.inr (Or.inr rfl), ?_⟩
        | refine ⟨Or.inr ⟨rfl, (by first | exact Or.inl rfl | exact Or.inr rfl | assumption)⟩, ?_⟩
        | refine ⟨fun h => absurd h (by decide), fun _ => ?_⟩
        | refine ⟨fun _ => ?_, fun h => absurd h (by decide)⟩
        | refine ⟨fun h => ?_, fun h => ?_⟩
        | fail)
    | succ i ih =>
      intro v g l7 hi hv hh
      subst hv
      rw [nI_pred]
      have hc : (nI i).toNatClampNeg = i := nI_clamp (by omega)
      have hcu : cV μ o day x.toNatClampNeg y.toNatClampNeg i = pV (cF μ) (cRu μ i) o day x.toNatClampNeg y.toNatClampNeg := rfl
      have hco : cOc μ i = μ 8 i 0 := rfl
      rw [← hh] at hK
      unfold pGoC at hK hh
      refine zs k_Bo_goingRule rfl ?_
      repeat' (first
        | refine br_f (nI_pos (by omega)) ?_
        | refine c_Ru_verdict (r := (nI i).toNatClampNeg) (by omega) (by rw [hc]; exact hok i (by omega)) hx hy ?_
        | refine ih _ _ _ (by omega) (by exact i32_m1 _) (by rw [← hh]; simp only [hc] at *; grind)
        | exact (by simp only [hc] at *; rw [if_neg (by grind), if_pos (by grind)] at hK; exact hK)
        | refine zs k_Bo_goingRule rfl ?_
        | refine ⟨Nat.zero_lt_one, rfl, ?_⟩
        | refine ⟨rfl, ?_⟩
        | refine ⟨⟨Nat.zero_lt_one, rfl⟩, Nat.le_of_ble_eq_true rfl, ?_⟩
        | refine ⟨Nat.le_of_ble_eq_true rfl, Nat.le_of_ble_eq_true rfl, ?_⟩
        | refine ⟨(by first | exact Nat.zero_lt_one | assumption | omega), (by first | assumption | exact vp_in_nI (by omega) (by omega) | (unfold vp_in; decide)), ?_⟩
        | refine ⟨(by first | exact Nat.zero_lt_one | assumption | omega), rfl, ?_⟩
        | refine ⟨⟨(by first | exact Nat.zero_lt_one | assumption | omega), rfl⟩, Nat.le_of_ble_eq_true rfl, ?_⟩
        | refine ⟨Or.inl rfl, ?_⟩
        | refine ⟨Or.inr (Or.inl rfl), ?_⟩
        | refine ⟨Or.inr (Or.inr rfl), ?_⟩
        | refine ⟨Or.inr ⟨rfl, (by first | exact Or.inl rfl | exact Or.inr rfl | assumption)⟩, ?_⟩
        | refine ⟨fun h => absurd h (by decide), fun _ => ?_⟩
        | refine ⟨fun _ => ?_, fun h => absurd h (by decide)⟩
        | refine ⟨fun h => ?_, fun h => ?_⟩
        | fail)
  repeat' (first
    | exact L n _ _ _ (Nat.le_refl n) (by rw [hn]) hRv
    | refine zs k_Bo_goingRule rfl ?_
    | refine ⟨Nat.zero_lt_one, rfl, ?_⟩
    | refine ⟨rfl, ?_⟩
    | refine ⟨⟨Nat.zero_lt_one, rfl⟩, Nat.le_of_ble_eq_true rfl, ?_⟩
    | refine ⟨Nat.le_of_ble_eq_true rfl, Nat.le_of_ble_eq_true rfl, ?_⟩
    | refine ⟨(by first | exact Nat.zero_lt_one | assumption | omega), (by first | assumption | exact vp_in_nI (by omega) (by omega) | (unfold vp_in; decide)), ?_⟩
    | refine ⟨(by first | exact Nat.zero_lt_one | assumption | omega), rfl, ?_⟩
    | refine ⟨⟨(by first | exact Nat.zero_lt_one | assumption | omega), rfl⟩, Nat.le_of_ble_eq_true rfl, ?_⟩
    | refine ⟨Or.inl rfl, ?_⟩
    | refine ⟨Or.inr (Or.inl rfl), ?_⟩
    | refine ⟨Or.inr (Or.inr rfl), ?_⟩
    | refine ⟨Or.inr ⟨rfl, (by first | exact Or.inl rfl | exact Or.inr rfl | assumption)⟩, ?_⟩
    | refine ⟨fun h => absurd h (by decide), fun _ => ?_⟩
    | refine ⟨fun _ => ?_, fun h => absurd h (by decide)⟩
    | refine ⟨fun h => ?_, fun h => ?_⟩
    | fail)
end
section
/-! RULEBOOK: contrary rule, leader -/
theorem c_Bo_contraryRule {d n : Nat} {μ : zMu} {o day x y : Int32} {K : Option zV → zMu → Prop} (hn : μ 3 0 0 = nI n) (h16 : n ≤ 16) (hok : ∀ r, r < n → cRok μ r) (hx : vp_in x 20) (hy : vp_in y 20)
    (hK : ∀ g, g = pGo (cV μ o day x.toNatClampNeg y.toNatClampNeg) (cOc μ) n → K (some (zI (if g = -1 then -1 else pFst (fun r => decide (cV μ o day x.toNatClampNeg y.toNatClampNeg r = -cV μ o day x.toNatClampNeg y.toNatClampNeg g.toNatClampNeg)) n))) μ) : Ct (d + 4) m_Bo_contraryRule [zR 3 0, zI o, zI day, zI x, zI y] μ K := by
  refine zmeet rfl (Nat.le_of_ble_eq_true rfl) (fun S => ?_)
  have hK := hK _ rfl
  have hin := pGo_in (V := cV μ o day x.toNatClampNeg y.toNatClampNeg) (oc := cOc μ) h16
  generalize hG : pGo (cV μ o day x.toNatClampNeg y.toNatClampNeg) (cOc μ) n = G at hK hin
  have L : ∀ (k i : Nat) (v : Int32), ¬ G = -1 → i + k = n → v = nI i → (∀ r, r < i → decide (cV μ o day x.toNatClampNeg y.toNatClampNeg r = -cV μ o day x.toNatClampNeg y.toNatClampNeg G.toNatClampNeg) = false) → zG S (d + 4) m_Bo_contraryRule K 43 [some (zR 3 0), some (zI o), some (zI day), some (zI x), some (zI y), some (zI G), some (zI (cV μ o day x.toNatClampNeg y.toNatClampNeg G.toNatClampNeg)), some (zI v)] [] μ := by
    intro k
    induction k with
    | zero =>
      intro i v hg hi hv hn0
      subst hv
      obtain rfl : i = n := by omega
      rw [if_neg hg, pFst_none hn0] at hK
      refine zs k_Bo_contraryRule rfl ?_
      repeat' (first
        | exact hK
        | refine zs k_Bo_contraryRule rfl ?_
        | refine br_t (by simp (disch := omega) only [hn, nI_leI, nI_ltI, nI_eq]; omega) ?_
        | refine br_f (by simp (disch := omega) only [hn, nI_leI, nI_ltI, nI_eq]; omega) ?_
        | refine ⟨Nat.zero_lt_one, rfl, ?_⟩
        | refine ⟨rfl, ?_⟩
        | refine ⟨⟨Nat.zero_lt_one, rfl⟩, Nat.le_of_ble_eq_true rfl, ?_⟩
        | refine ⟨Nat.le_of_ble_eq_true rfl, Nat.le_of_ble_eq_true rfl, ?_⟩
        | refine ⟨(by first | exact Nat.zero_lt_one | assumption | omega), (by first | assumption | exact vp_in_nI (by omega) (by omega) | (unfold vp_in; decide)), ?_⟩
        | refine ⟨(by first | exact Nat.zero_lt_one | assumption | omega), rfl, ?_⟩
        | refine ⟨⟨(by first | exact Nat.zero_lt_one | assumption | omega), rfl⟩, Nat.le_of_ble_eq_true rfl, ?_⟩
        | refine ⟨Or.inl rfl, ?_⟩
        | refine ⟨Or.inr (Or.inl rfl), ?_⟩
        | refine ⟨Or.inr (Or.inr rfl), ?_⟩
        | refine ⟨Or.inr ⟨rfl, (by first | exact Or.inl rfl | exact Or.inr rfl | assumption)⟩, ?_⟩
        | refine ⟨fun h => absurd h (by decide), fun _ => ?_⟩
        | refine ⟨fun _ => ?_, fun h => absurd h (by decide)⟩
        | refine ⟨fun h => ?_, fun h => ?_⟩
        | fail)
    | succ k ih =>
      intro i v hg hi hv hn0
      subst hv
      have hc : (nI i).toNatClampNeg = i := nI_clamp (by omega)
      have hcu : cV μ o day x.toNatClampNeg y.toNatClampNeg i = pV (cF μ) (cRu μ i) o day x.toNatClampNeg y.toNatClampNeg := rfl
      refine zs k_Bo_contraryRule rfl ?_
      repeat' (first
        | refine c_Ru_verdict (r := (nI i).toNatClampNeg) (by omega) (by rw [hc]; exact hok i (by omega)) hx hy ?_
        | refine ih (i + 1) _ hg (by omega) (by exact nI_1 i) (lt_s hn0 (by rw [decide_eq_false_iff_not, hcu, ← hc]; assumption))
        | exact (by rw [if_neg hg, pFst_hit hn0 (by rw [decide_eq_true_eq, hcu, ← hc]; assumption) (by omega) (by omega)] at hK; exact hK)
        | refine zs k_Bo_contraryRule rfl ?_
        | refine br_t (by simp (disch := omega) only [hn, nI_leI, nI_ltI, nI_eq]; omega) ?_
        | refine br_f (by simp (disch := omega) only [hn, nI_leI, nI_ltI, nI_eq]; omega) ?_
        | refine ⟨Nat.zero_lt_one, rfl, ?_⟩
        | refine ⟨rfl, ?_⟩
        | refine ⟨⟨Nat.zero_lt_one, rfl⟩, Nat.le_of_ble_eq_true rfl, ?_⟩
        | refine ⟨Nat.le_of_ble_eq_true rfl, Nat.le_of_ble_eq_true rfl, ?_⟩
        | refine ⟨(by first | exact Nat.zero_lt_one | assumption | omega), (by first | assumption | exact vp_in_nI (by omega) (by omega) | (unfold vp_in; decide)), ?_⟩
        | refine ⟨(by first | exact Nat.zero_lt_one | assumption | omega), rfl, ?_⟩
        | refine ⟨⟨(by first | exact Nat.zero_lt_one | assumption | omega), rfl⟩, Nat.le_of_ble_eq_true rfl, ?_⟩
        | refine ⟨Or.inl rfl, ?_⟩
        | refine ⟨Or.inr (Or.inl rfl), ?_⟩
        | refine ⟨Or.inr (Or.inr rfl), ?_⟩
        | refine ⟨Or.inr ⟨rfl, (by first | exact Or.inl rfl | exact Or.inr rfl | assumption)⟩, ?_⟩
        | refine ⟨fun h => absurd h (by decide), fun _ => ?_⟩
        | refine ⟨fun _ => ?_, fun h => absurd h (by decide)⟩
        | refine ⟨fun h => ?_, fun h => ?_⟩
        | fail)
  rcases hin with hg | ⟨rg, hrg, hrG, -⟩
  · rw [if_pos hg] at hK
    repeat' (first
      | (refine c_Bo_goingRule hn h16 hok hx hy ?_; rw [hG])
      | refine ⟨fun h => absurd hg h, fun _ => ?_⟩
      | exact hK
      | refine zs k_Bo_contraryRule rfl ?_
      | refine ⟨Nat.zero_lt_one, rfl, ?_⟩
      | refine ⟨rfl, ?_⟩
      | refine ⟨⟨Nat.zero_lt_one, rfl⟩, Nat.le_of_ble_eq_true rfl, ?_⟩
      | refine ⟨Nat.le_of_ble_eq_true rfl, Nat.le_of_ble_eq_true rfl, ?_⟩
      | refine ⟨(by first | exact Nat.zero_lt_one | assumption | omega), (by first | assumption | exact vp_in_nI (by omega) (by omega) | (unfold vp_in; decide)), ?_⟩
      | refine ⟨(by first | exact Nat.zero_lt_one | assumption | omega), rfl, ?_⟩
      | refine ⟨⟨(by first | exact Nat.zero_lt_one | assumption | omega), rfl⟩, Nat.le_of_ble_eq_true rfl, ?_⟩
      | refine ⟨Or.inl rfl, ?_⟩
      | refine ⟨Or.inr (Or.inl rfl), ?_⟩
      | refine ⟨Or.inr (Or.inr rfl), ?_⟩
      | refine ⟨Or.inr ⟨rfl, (by first | exact Or.inl rfl | exact Or.inr rfl | assumption)⟩, ?_⟩
      | refine ⟨fun h => absurd h (by decide), fun _ => ?_⟩
      | refine ⟨fun _ => ?_, fun h => absurd h (by decide)⟩
      | refine ⟨fun h => ?_, fun h => ?_⟩
      | fail)
  · have hgc : G.toNatClampNeg = rg := by rw [hrG]; exact nI_clamp (by omega)
    have hgm : ¬ G = -1 := by rw [hrG]; exact nI_nem1 (by omega)
    have hgv : vp_in G 16 := by rw [hrG]; exact vp_in_nI (by omega) (by omega)
    have hg16 : G.toNatClampNeg < 16 := by omega
    have hgok : cRok μ G.toNatClampNeg := by rw [hgc]; exact hok rg hrg
    repeat' (first
      | (refine c_Bo_goingRule hn h16 hok hx hy ?_; rw [hG])
      | refine ⟨fun _ => ?_, fun h => absurd h hgm⟩
      | refine L n 0 _ hgm (by omega) rfl (fun r hr => absurd hr (by omega))
      | refine c_Ru_verdict (r := G.toNatClampNeg) hg16 hgok hx hy ?_
      | refine zs k_Bo_contraryRule rfl ?_
      | refine ⟨Nat.zero_lt_one, rfl, ?_⟩
      | refine ⟨rfl, ?_⟩
      | refine ⟨⟨Nat.zero_lt_one, rfl⟩, Nat.le_of_ble_eq_true rfl, ?_⟩
      | refine ⟨Nat.le_of_ble_eq_true rfl, Nat.le_of_ble_eq_true rfl, ?_⟩
      | refine ⟨(by first | exact Nat.zero_lt_one | assumption | omega), (by first | assumption | exact vp_in_nI (by omega) (by omega) | (unfold vp_in; decide)), ?_⟩
      | refine ⟨(by first | exact Nat.zero_lt_one | assumption | omega), rfl, ?_⟩
      | refine ⟨⟨(by first | exact Nat.zero_lt_one | assumption | omega), rfl⟩, Nat.le_of_ble_eq_true rfl, ?_⟩
      | refine ⟨Or.inl rfl, ?_⟩
      | refine ⟨Or.inr (Or.inl rfl), ?_⟩
      | refine ⟨Or.inr (Or.inr rfl), ?_⟩
      | refine ⟨Or.inr ⟨rfl, (by first | exact Or.inl rfl | exact Or.inr rfl | assumption)⟩, ?_⟩
      | refine ⟨fun h => absurd h (by decide), fun _ => ?_⟩
      | refine ⟨fun _ => ?_, fun h => absurd h (by decide)⟩
      | refine ⟨fun h => ?_, fun h => ?_⟩
      | fail)
/-- who is ahead: a hand, else the rule that goes -/
def pLd (h : Int32) (V oc : Nat → Int32) (n : Nat) : Int32 := if ¬ h = 0 then h else if pGo V oc n = -1 then 0 else V (pGo V oc n).toNatClampNeg
theorem c_Bo_leader {d n nh : Nat} {μ : zMu} {o day x y : Int32} {K : Option zV → zMu → Prop} (hn : μ 3 0 0 = nI n) (h16 : n ≤ 16) (hh : μ 3 0 1 = nI nh) (h20 : nh ≤ 20) (hok : ∀ r, r < n → cRok μ r) (hx : vp_in x 20) (hy : vp_in y 20)
    (hK : K (some (zI (pLd (pHand (μ 20 0) (μ 21 0) x y nh) (cV μ o day x.toNatClampNeg y.toNatClampNeg) (cOc μ) n))) μ) : Ct (d + 4) m_Bo_leader [zR 3 0, zI o, zI day, zI x, zI y] μ K := by
  refine zmeet rfl (Nat.le_of_ble_eq_true rfl) (fun S => ?_)
  unfold pLd at hK
  have hin := pGo_in (V := cV μ o day x.toNatClampNeg y.toNatClampNeg) (oc := cOc μ) h16
  generalize hG : pGo (cV μ o day x.toNatClampNeg y.toNatClampNeg) (cOc μ) n = G at hK hin
  generalize hHd : pHand (μ 20 0) (μ 21 0) x y nh = Hd at hK
  rcases hin with hg | ⟨rg, hrg, hrG, -⟩
  · rw [if_pos hg] at hK
    repeat' (first
      | (refine c_Bo_toldByHand hh h20 ?_; rw [hHd])
      | (refine c_Bo_goingRule hn h16 hok hx hy ?_; rw [hG])
      | refine ⟨fun h => absurd hg h, fun _ => ?_⟩
      | exact (by rw [if_pos (by assumption)] at hK; exact hK)
      | exact (by rw [if_neg (by simpa using ‹_›)] at hK; exact hK)
      | refine zs k_Bo_leader rfl ?_
      | refine ⟨Nat.zero_lt_one, rfl, ?_⟩
      | refine ⟨rfl, ?_⟩
      | refine ⟨⟨Nat.zero_lt_one, rfl⟩, Nat.le_of_ble_eq_true rfl, ?_⟩
      | refine ⟨Nat.le_of_ble_eq_true rfl, Nat.le_of_ble_eq_true rfl, ?_⟩
      | refine ⟨(by first | exact Nat.zero_lt_one | assumption | omega), (by first | assumption | exact vp_in_nI (by omega) (by omega) | (unfold vp_in; decide)), ?_⟩
      | refine ⟨(by first | exact Nat.zero_lt_one | assumption | omega), rfl, ?_⟩
      | refine ⟨⟨(by first | exact Nat.zero_lt_one | assumption | omega), rfl⟩, Nat.le_of_ble_eq_true rfl, ?_⟩
      | refine ⟨Or.inl rfl, ?_⟩
      | refine ⟨Or.inr (Or.inl rfl), ?_⟩
      | refine ⟨Or.inr (Or.inr rfl), ?_⟩
      | refine ⟨Or.inr ⟨rfl, (by first | exact Or.inl rfl | exact Or.inr rfl | assumption)⟩, ?_⟩
      | refine ⟨fun h => absurd h (by decide), fun _ => ?_⟩
      | refine ⟨fun _ => ?_, fun h => absurd h (by decide)⟩
      | refine ⟨fun h => ?_, fun h => ?_⟩
      | fail)
  · have hgc : G.toNatClampNeg = rg := by rw [hrG]; exact nI_clamp (by omega)
    have hgm : ¬ G = -1 := by rw [hrG]; exact nI_nem1 (by omega)
    have hgv : vp_in G 16 := by rw [hrG]; exact vp_in_nI (by omega) (by omega)
    have hg16 : G.toNatClampNeg < 16 := by omega
    have hgok : cRok μ G.toNatClampNeg := by rw [hgc]; exact hok rg hrg
    rw [if_neg hgm] at hK
    repeat' (first
      | (refine c_Bo_toldByHand hh h20 ?_; rw [hHd])
      | (refine c_Bo_goingRule hn h16 hok hx hy ?_; rw [hG])
      | refine ⟨fun _ => ?_, fun h => absurd h hgm⟩
      | refine c_Ru_verdict (r := G.toNatClampNeg) hg16 hgok hx hy ?_
      | exact (by rw [if_pos (by assumption)] at hK; exact hK)
      | exact (by rw [if_neg (by simpa using ‹_›)] at hK; exact hK)
      | refine zs k_Bo_leader rfl ?_
      | refine ⟨Nat.zero_lt_one, rfl, ?_⟩
      | refine ⟨rfl, ?_⟩
      | refine ⟨⟨Nat.zero_lt_one, rfl⟩, Nat.le_of_ble_eq_true rfl, ?_⟩
      | refine ⟨Nat.le_of_ble_eq_true rfl, Nat.le_of_ble_eq_true rfl, ?_⟩
      | refine ⟨(by first | exact Nat.zero_lt_one | assumption | omega), (by first | assumption | exact vp_in_nI (by omega) (by omega) | (unfold vp_in; decide)), ?_⟩
      | refine ⟨(by first | exact Nat.zero_lt_one | assumption | omega), rfl, ?_⟩
      | refine ⟨⟨(by first | exact Nat.zero_lt_one | assumption | omega), rfl⟩, Nat.le_of_ble_eq_true rfl, ?_⟩
      | refine ⟨Or.inl rfl, ?_⟩
      | refine ⟨Or.inr (Or.inl rfl), ?_⟩
      | refine ⟨Or.inr (Or.inr rfl), ?_⟩
      | refine ⟨Or.inr ⟨rfl, (by first | exact Or.inl rfl | exact Or.inr rfl | assumption)⟩, ?_⟩
      | refine ⟨fun h => absurd h (by decide), fun _ => ?_⟩
      | refine ⟨fun _ => ?_, fun h => absurd h (by decide)⟩
      | refine ⟨fun h => ?_, fun h => ?_⟩
      | fail)
end
section
/-- an answer and a state by equations -/
theorem zKe {K : Option zV → zMu → Prop} {v w : Int32} {μ μ' : zMu} (h : K (some (zI v)) μ) (e : w = v) (e2 : μ' = μ) : K (some (zI w)) μ' := by
  rw [e, e2]
  exact h
theorem zKn {K : Option zV → zMu → Prop} {μ μ' : zMu} (h : K none μ) (e2 : μ' = μ) : K none μ' := by
  rw [e2]
  exact h
end
section
/-! CALLS: the visits -/
theorem c_Ca_add {d : Nat} {μ : zMu} {x y z : Int32} {K : Option zV → zMu → Prop} (hs : vp_in (μ 7 0 0) 40) (hK : K none (zu (zu (zu (zu μ 46 0 (μ 7 0 0).toNatClampNeg x) 45 0 (μ 7 0 0).toNatClampNeg y) 47 0 (μ 7 0 0).toNatClampNeg z) 7 0 0 (μ 7 0 0 + 1))) : Ct d m_Ca_add [zR 7 0, zI x, zI y, zI z] μ K := by
  refine zmeet rfl (Nat.le_of_ble_eq_true rfl) (fun S => ?_)
  repeat' (first
    | exact hK
    | refine zs k_Ca_add rfl ?_
    | refine ⟨Nat.zero_lt_one, rfl, ?_⟩
    | refine ⟨rfl, ?_⟩
    | refine ⟨⟨Nat.zero_lt_one, rfl⟩, Nat.le_of_ble_eq_true rfl, ?_⟩
    | refine ⟨Nat.le_of_ble_eq_true rfl, Nat.le_of_ble_eq_true rfl, ?_⟩
    | refine ⟨(by first | exact Nat.zero_lt_one | assumption | omega), (by first | assumption | exact vp_in_nI (by omega) (by omega) | (unfold vp_in; decide)), ?_⟩
    | refine ⟨(by first | exact Nat.zero_lt_one | assumption | omega), rfl, ?_⟩
    | refine ⟨⟨(by first | exact Nat.zero_lt_one | assumption | omega), rfl⟩, Nat.le_of_ble_eq_true rfl, ?_⟩
    | refine ⟨Or.inl rfl, ?_⟩
    | refine ⟨Or.inr (Or.inl rfl), ?_⟩
    | refine ⟨Or.inr (Or.inr rfl), ?_⟩
    | refine ⟨Or.inr ⟨rfl, (by first | exact Or.inl rfl | exact Or.inr rfl | assumption)⟩, ?_⟩
    | refine ⟨fun h => absurd h (by decide), fun _ => ?_⟩
    | refine ⟨fun _ => ?_, fun h => absurd h (by decide)⟩
    | refine ⟨fun h => ?_, fun h => ?_⟩
    | fail)
theorem c_Ca_isBetween {d : Nat} {μ : zMu} {v x y : Int32} {K : Option zV → zMu → Prop} (hv : vp_in v 40) (h1 : μ 46 0 v.toNatClampNeg = x ∧ μ 45 0 v.toNatClampNeg = y → K (some (zI 1)) μ) (h0 : ¬ (μ 46 0 v.toNatClampNeg = x ∧ μ 45 0 v.toNatClampNeg = y) → K (some (zI 0)) μ) : Ct d m_Ca_isBetween [zR 7 0, zI v, zI x, zI y] μ K := by
  refine zmeet rfl (Nat.le_of_ble_eq_true rfl) (fun S => ?_)
  repeat' (first
    | exact h0 (by grind)
    | exact h1 (by grind)
    | refine zs k_Ca_isBetween rfl ?_
    | refine ⟨Nat.zero_lt_one, rfl, ?_⟩
    | refine ⟨rfl, ?_⟩
    | refine ⟨⟨Nat.zero_lt_one, rfl⟩, Nat.le_of_ble_eq_true rfl, ?_⟩
    | refine ⟨Nat.le_of_ble_eq_true rfl, Nat.le_of_ble_eq_true rfl, ?_⟩
    | refine ⟨(by first | exact Nat.zero_lt_one | assumption | omega), (by first | assumption | exact vp_in_nI (by omega) (by omega) | (unfold vp_in; decide)), ?_⟩
    | refine ⟨(by first | exact Nat.zero_lt_one | assumption | omega), rfl, ?_⟩
    | refine ⟨⟨(by first | exact Nat.zero_lt_one | assumption | omega), rfl⟩, Nat.le_of_ble_eq_true rfl, ?_⟩
    | refine ⟨Or.inl rfl, ?_⟩
    | refine ⟨Or.inr (Or.inl rfl), ?_⟩
    | refine ⟨Or.inr (Or.inr rfl), ?_⟩
    | refine ⟨Or.inr ⟨rfl, (by first | exact Or.inl rfl | exact Or.inr rfl | assumption)⟩, ?_⟩
    | refine ⟨fun h => absurd h (by decide), fun _ => ?_⟩
    | refine ⟨fun _ => ?_, fun h => absurd h (by decide)⟩
    | refine ⟨fun h => ?_, fun h => ?_⟩
    | fail)
theorem c_Ca_isLate {d : Nat} {μ : zMu} {v x : Int32} {K : Option zV → zMu → Prop} (hv : vp_in v 40) (h1 : μ 47 0 v.toNatClampNeg + μ 7 0 1 < x → K (some (zI 1)) μ) (h0 : ¬ μ 47 0 v.toNatClampNeg + μ 7 0 1 < x → K (some (zI 0)) μ) : Ct d m_Ca_isLate [zR 7 0, zI v, zI x] μ K := by
  refine zmeet rfl (Nat.le_of_ble_eq_true rfl) (fun S => ?_)
  repeat' (first
    | exact h0 (by grind)
    | exact h1 (by grind)
    | refine zs k_Ca_isLate rfl ?_
    | refine ⟨Nat.zero_lt_one, rfl, ?_⟩
    | refine ⟨rfl, ?_⟩
    | refine ⟨⟨Nat.zero_lt_one, rfl⟩, Nat.le_of_ble_eq_true rfl, ?_⟩
    | refine ⟨Nat.le_of_ble_eq_true rfl, Nat.le_of_ble_eq_true rfl, ?_⟩
    | refine ⟨(by first | exact Nat.zero_lt_one | assumption | omega), (by first | assumption | exact vp_in_nI (by omega) (by omega) | (unfold vp_in; decide)), ?_⟩
    | refine ⟨(by first | exact Nat.zero_lt_one | assumption | omega), rfl, ?_⟩
    | refine ⟨⟨(by first | exact Nat.zero_lt_one | assumption | omega), rfl⟩, Nat.le_of_ble_eq_true rfl, ?_⟩
    | refine ⟨Or.inl rfl, ?_⟩
    | refine ⟨Or.inr (Or.inl rfl), ?_⟩
    | refine ⟨Or.inr (Or.inr rfl), ?_⟩
    | refine ⟨Or.inr ⟨rfl, (by first | exact Or.inl rfl | exact Or.inr rfl | assumption)⟩, ?_⟩
    | refine ⟨fun h => absurd h (by decide), fun _ => ?_⟩
    | refine ⟨fun _ => ?_, fun h => absurd h (by decide)⟩
    | refine ⟨fun h => ?_, fun h => ?_⟩
    | fail)
/-- how many of the first -/
def pCt (P : Nat → Bool) : Nat → Nat
  | 0 => 0
  | n + 1 => pCt P n + (if P n then 1 else 0)
theorem pCt_le (P : Nat → Bool) : ∀ n, pCt P n ≤ n
  | 0 => Nat.le_refl _
  | n + 1 => by
    have := pCt_le P n
    rw [pCt]
    split <;> omega
/-- the i-th for which P holds -/
def pNth (P : Nat → Bool) (i : Int32) (n : Nat) : Int32 := pFst (fun v => P v && decide (nI (pCt P v) = i)) n
theorem c_Ca_find {d n : Nat} {μ : zMu} {x j : Int32} {K : Option zV → zMu → Prop} (hn : μ 7 0 0 = nI n) (h40 : n ≤ 40) (hK : K (some (zI (pNth (fun v => decide (μ 46 0 v = x)) j n))) μ) : Ct d m_Ca_find [zR 7 0, zI x, zI j] μ K := by
  refine zmeet rfl (Nat.le_of_ble_eq_true rfl) (fun S => ?_)
  unfold pNth at hK
  have L : ∀ (k i : Nat) (v c : Int32), i + k = n → v = nI i → c = nI (pCt (fun v => decide (μ 46 0 v = x)) i) → (∀ r, r < i → (decide (μ 46 0 r = x) && decide (nI (pCt (fun v => decide (μ 46 0 v = x)) r) = j)) = false) → zG S d m_Ca_find K 5 [some (zR 7 0), some (zI x), some (zI j), some (zI c), some (zI v)] [] μ := by
    intro k
    induction k with
    | zero =>
      intro i v c hi hv hcv hn0
      subst hv hcv
      obtain rfl : i = n := by omega
      rw [pFst_none hn0] at hK
      refine zs k_Ca_find rfl ?_
      repeat' (first
        | exact hK
        | refine zs k_Ca_find rfl ?_
        | refine br_t (by simp (disch := omega) only [hn, nI_leI, nI_ltI, nI_eq]; omega) ?_
        | refine br_f (by simp (disch := omega) only [hn, nI_leI, nI_ltI, nI_eq]; omega) ?_
        | refine ⟨Nat.zero_lt_one, rfl, ?_⟩
        | refine ⟨rfl, ?_⟩
        | refine ⟨⟨Nat.zero_lt_one, rfl⟩, Nat.le_of_ble_eq_true rfl, ?_⟩
        | refine ⟨Nat.le_of_ble_eq_true rfl, Nat.le_of_ble_eq_true rfl, ?_⟩
        | refine ⟨(by first | exact Nat.zero_lt_one | assumption | omega), (by first | assumption | exact vp_in_nI (by omega) (by omega) | (unfold vp_in; decide)), ?_⟩
        | refine ⟨(by first | exact Nat.zero_lt_one | assumption | omega), rfl, ?_⟩
        | refine ⟨⟨(by first | exact Nat.zero_lt_one | assumption | omega), rfl⟩, Nat.le_of_ble_eq_true rfl, ?_⟩
        | refine ⟨Or.inl rfl, ?_⟩
        | refine ⟨Or.inr (Or.inl rfl), ?_⟩
        | refine ⟨Or.inr (Or.inr rfl), ?_⟩
        | refine ⟨Or.inr ⟨rfl, (by first | exact Or.inl rfl | exact Or.inr rfl | assumption)⟩, ?_⟩
        | refine ⟨fun h => absurd h (by decide), fun _ => ?_⟩
        | refine ⟨fun _ => ?_, fun h => absurd h (by decide)⟩
        | refine ⟨fun h => ?_, fun h => ?_⟩
        | fail)
    | succ k ih =>
      intro i v c hi hv hcv hn0
      subst hv
      have hc : (nI i).toNatClampNeg = i := nI_clamp (by omega)
      have hp : pCt (fun v => decide (μ 46 0 v = x)) (i + 1) = pCt (fun v => decide (μ 46 0 v = x)) i + (if decide (μ 46 0 i = x) then 1 else 0) := rfl
      refine zs k_Ca_find rfl ?_
      repeat' (first
        | refine ih (i + 1) _ _ (by omega) (by exact nI_1 i) (by rw [hp, hcv]; simp only [hc] at *; first | (rw [if_pos (by simpa using ‹_›)]; exact nI_1 _) | (rw [if_neg (by simpa using ‹_›)]; rfl)) (lt_s hn0 (by rw [Bool.and_eq_false_iff, decide_eq_false_iff_not, decide_eq_false_iff_not, ← hcv]; first | (left; rw [hc] at *; assumption) | (right; assumption)))
        | exact zKe hK (by rw [pFst_hit hn0 (by rw [Bool.and_eq_true, decide_eq_true_eq, decide_eq_true_eq, ← hcv]; exact ⟨by rw [hc] at *; assumption, by assumption⟩) (by omega) (by omega)]) rfl
        | refine zs k_Ca_find rfl ?_
        | refine br_t (by simp (disch := omega) only [hn, nI_leI, nI_ltI, nI_eq]; omega) ?_
        | refine br_f (by simp (disch := omega) only [hn, nI_leI, nI_ltI, nI_eq]; omega) ?_
        | refine ⟨Nat.zero_lt_one, rfl, ?_⟩
        | refine ⟨rfl, ?_⟩
        | refine ⟨⟨Nat.zero_lt_one, rfl⟩, Nat.le_of_ble_eq_true rfl, ?_⟩
        | refine ⟨Nat.le_of_ble_eq_true rfl, Nat.le_of_ble_eq_true rfl, ?_⟩
        | refine ⟨(by first | exact Nat.zero_lt_one | assumption | omega), (by first | assumption | exact vp_in_nI (by omega) (by omega) | (unfold vp_in; decide)), ?_⟩
        | refine ⟨(by first | exact Nat.zero_lt_one | assumption | omega), rfl, ?_⟩
        | refine ⟨⟨(by first | exact Nat.zero_lt_one | assumption | omega), rfl⟩, Nat.le_of_ble_eq_true rfl, ?_⟩
        | refine ⟨Or.inl rfl, ?_⟩
        | refine ⟨Or.inr (Or.inl rfl), ?_⟩
        | refine ⟨Or.inr (Or.inr rfl), ?_⟩
        | refine ⟨Or.inr ⟨rfl, (by first | exact Or.inl rfl | exact Or.inr rfl | assumption)⟩, ?_⟩
        | refine ⟨fun h => absurd h (by decide), fun _ => ?_⟩
        | refine ⟨fun _ => ?_, fun h => absurd h (by decide)⟩
        | refine ⟨fun h => ?_, fun h => ?_⟩
        | fail)
  repeat' (first
    | exact L n 0 _ _ (by omega) rfl rfl (fun r hr => absurd hr (by omega))
    | refine zs k_Ca_find rfl ?_
    | refine ⟨Nat.zero_lt_one, rfl, ?_⟩
    | refine ⟨rfl, ?_⟩
    | refine ⟨⟨Nat.zero_lt_one, rfl⟩, Nat.le_of_ble_eq_true rfl, ?_⟩
    | refine ⟨Nat.le_of_ble_eq_true rfl, Nat.le_of_ble_eq_true rfl, ?_⟩
    | refine ⟨(by first | exact Nat.zero_lt_one | assumption | omega), (by first | assumption | exact vp_in_nI (by omega) (by omega) | (unfold vp_in; decide)), ?_⟩
    | refine ⟨(by first | exact Nat.zero_lt_one | assumption | omega), rfl, ?_⟩
    | refine ⟨⟨(by first | exact Nat.zero_lt_one | assumption | omega), rfl⟩, Nat.le_of_ble_eq_true rfl, ?_⟩
    | refine ⟨Or.inl rfl, ?_⟩
    | refine ⟨Or.inr (Or.inl rfl), ?_⟩
    | refine ⟨Or.inr (Or.inr rfl), ?_⟩
    | refine ⟨Or.inr ⟨rfl, (by first | exact Or.inl rfl | exact Or.inr rfl | assumption)⟩, ?_⟩
    | refine ⟨fun h => absurd h (by decide), fun _ => ?_⟩
    | refine ⟨fun _ => ?_, fun h => absurd h (by decide)⟩
    | refine ⟨fun h => ?_, fun h => ?_⟩
    | fail)
/-- a row without its v-th, up to the new length n -/
def pRem (a : Nat → Int32) (v n : Nat) : Nat → Int32 := fun k => if v ≤ k ∧ k < n then a (k + 1) else a k
def cRem (μ : zMu) (v n : Nat) : zMu := fun f i k => if (f = 45 ∨ f = 46 ∨ f = 47) ∧ i = 0 then pRem (μ f i) v n k else μ f i k
theorem c_Ca_remove {d n v : Nat} {μ : zMu} {K : Option zV → zMu → Prop} (hn : μ 7 0 0 = nI (n + 1)) (h40 : n + 1 ≤ 40) (hv : v ≤ n) (hK : K none (cRem (zu μ 7 0 0 (nI n)) v n)) : Ct d m_Ca_remove [zR 7 0, zI (nI v)] μ K := by
  refine zmeet rfl (Nat.le_of_ble_eq_true rfl) (fun S => ?_)
  have L : ∀ (k i : Nat) (x : Int32) (μ1 : zMu), i + k = n → v ≤ i → x = nI i → μ1 = cRem (zu μ 7 0 0 (nI n)) v i → zG S d m_Ca_remove K 12 [some (zR 7 0), some (zI (nI v)), some (zI x)] [] μ1 := by
    intro k
    induction k with
    | zero =>
      intro i x μ1 hi hvi hx hm
      subst hx hm
      obtain rfl : i = n := by omega
      have hz : cRem (zu μ 7 0 0 (nI i)) v i 7 0 0 = nI i := rfl
      refine zs k_Ca_remove rfl ?_
      repeat' (first
        | exact hK
        | refine zs k_Ca_remove rfl ?_
        | refine br_t (by simp (disch := omega) only [hz, nI_leI, nI_ltI, nI_eq]; omega) ?_
        | refine br_f (by simp (disch := omega) only [hz, nI_leI, nI_ltI, nI_eq]; omega) ?_
        | refine ⟨Nat.zero_lt_one, rfl, ?_⟩
        | refine ⟨rfl, ?_⟩
        | refine ⟨⟨Nat.zero_lt_one, rfl⟩, Nat.le_of_ble_eq_true rfl, ?_⟩
        | refine ⟨Nat.le_of_ble_eq_true rfl, Nat.le_of_ble_eq_true rfl, ?_⟩
        | refine ⟨(by first | exact Nat.zero_lt_one | assumption | omega), (by first | assumption | exact vp_in_nI (by omega) (by omega) | (unfold vp_in; decide)), ?_⟩
        | refine ⟨(by first | exact Nat.zero_lt_one | assumption | omega), rfl, ?_⟩
        | refine ⟨⟨(by first | exact Nat.zero_lt_one | assumption | omega), rfl⟩, Nat.le_of_ble_eq_true rfl, ?_⟩
        | refine ⟨Or.inl rfl, ?_⟩
        | refine ⟨Or.inr (Or.inl rfl), ?_⟩
        | refine ⟨Or.inr (Or.inr rfl), ?_⟩
        | refine ⟨Or.inr ⟨rfl, (by first | exact Or.inl rfl | exact Or.inr rfl | assumption)⟩, ?_⟩
        | refine ⟨fun h => absurd h (by decide), fun _ => ?_⟩
        | refine ⟨fun _ => ?_, fun h => absurd h (by decide)⟩
        | refine ⟨fun h => ?_, fun h => ?_⟩
        | fail)
    | succ k ih =>
      intro i x μ1 hi hvi hx hm
      subst hx
      have hz : μ1 7 0 0 = nI n := by rw [hm]; rfl
      have hc : (nI i).toNatClampNeg = i := nI_clamp (by omega)
      have hc1 : (nI i + 1).toNatClampNeg = i + 1 := by rw [nI_1, nI_clamp (by omega)]
      have hv1 : vp_in (nI i + 1) 40 := by rw [nI_1]; exact vp_in_nI (by omega) (by omega)
      refine zs k_Ca_remove rfl ?_
      repeat' (first
        | refine ih (i + 1) _ _ (by omega) (by omega) (by exact nI_1 i) ?_
        | refine zs k_Ca_remove rfl ?_
        | refine br_t (by simp (disch := omega) only [hz, nI_leI, nI_ltI, nI_eq]; omega) ?_
        | refine br_f (by simp (disch := omega) only [hz, nI_leI, nI_ltI, nI_eq]; omega) ?_
        | refine ⟨Nat.zero_lt_one, rfl, ?_⟩
        | refine ⟨rfl, ?_⟩
        | refine ⟨⟨Nat.zero_lt_one, rfl⟩, Nat.le_of_ble_eq_true rfl, ?_⟩
        | refine ⟨Nat.le_of_ble_eq_true rfl, Nat.le_of_ble_eq_true rfl, ?_⟩
        | refine ⟨(by first | exact Nat.zero_lt_one | assumption | omega), (by first | assumption | exact vp_in_nI (by omega) (by omega) | (unfold vp_in; decide)), ?_⟩
        | refine ⟨(by first | exact Nat.zero_lt_one | assumption | omega), rfl, ?_⟩
        | refine ⟨⟨(by first | exact Nat.zero_lt_one | assumption | omega), rfl⟩, Nat.le_of_ble_eq_true rfl, ?_⟩
        | refine ⟨Or.inl rfl, ?_⟩
        | refine ⟨Or.inr (Or.inl rfl), ?_⟩
        | refine ⟨Or.inr (Or.inr rfl), ?_⟩
        | refine ⟨Or.inr ⟨rfl, (by first | exact Or.inl rfl | exact Or.inr rfl | assumption)⟩, ?_⟩
        | refine ⟨fun h => absurd h (by decide), fun _ => ?_⟩
        | refine ⟨fun _ => ?_, fun h => absurd h (by decide)⟩
        | refine ⟨fun h => ?_, fun h => ?_⟩
        | fail)
      rw [hc, hc1, hm]
      funext f a b
      simp only [cRem, pRem, zu]
      grind
  repeat' (first
    | refine L (n - v) v _ _ (by omega) (Nat.le_refl v) rfl ?_
    | refine zs k_Ca_remove rfl ?_
    | refine ⟨Nat.zero_lt_one, rfl, ?_⟩
    | refine ⟨rfl, ?_⟩
    | refine ⟨⟨Nat.zero_lt_one, rfl⟩, Nat.le_of_ble_eq_true rfl, ?_⟩
    | refine ⟨Nat.le_of_ble_eq_true rfl, Nat.le_of_ble_eq_true rfl, ?_⟩
    | refine ⟨(by first | exact Nat.zero_lt_one | assumption | omega), (by first | assumption | exact vp_in_nI (by omega) (by omega) | (unfold vp_in; decide)), ?_⟩
    | refine ⟨(by first | exact Nat.zero_lt_one | assumption | omega), rfl, ?_⟩
    | refine ⟨⟨(by first | exact Nat.zero_lt_one | assumption | omega), rfl⟩, Nat.le_of_ble_eq_true rfl, ?_⟩
    | refine ⟨Or.inl rfl, ?_⟩
    | refine ⟨Or.inr (Or.inl rfl), ?_⟩
    | refine ⟨Or.inr (Or.inr rfl), ?_⟩
    | refine ⟨Or.inr ⟨rfl, (by first | exact Or.inl rfl | exact Or.inr rfl | assumption)⟩, ?_⟩
    | refine ⟨fun h => absurd h (by decide), fun _ => ?_⟩
    | refine ⟨fun _ => ?_, fun h => absurd h (by decide)⟩
    | refine ⟨fun h => ?_, fun h => ?_⟩
    | fail)
  funext f a b
  simp only [cRem, pRem, zu, hn, nI_pred]
  grind
end
section
/-! TABLE -/
theorem c_fill_31 {d t : Nat} {μ : zMu} {v : Int32} {K : Option zV → zMu → Prop}  (hK : K none (fun f i k => if f = 31 ∧ i = 0 ∧ k < 20 then v else μ f i k)) : Ct d m_Jarr_fill [zR 31 0, zI v] μ K := by
  refine zmeetF pf_fill (Nat.le_of_ble_eq_true rfl) (fun S => ?_)
  have L : ∀ (k i : Nat) (x : Int32) (μ1 : zMu), i + k = 20 → x = nI i → μ1 = (fun f a b => if f = 31 ∧ a = 0 ∧ b < i then v else μ f a b) → zG S d m_Jarr_fill K 5 [some (zR 31 0), some (zI v), some (zI x), some (zI (Int32.ofNat 20))] [] μ1 := by
    intro k
    induction k with
    | zero =>
      intro i x μ1 hi hx hm
      subst hx hm
      obtain rfl : i = 20 := by omega
      refine zs k_Jarr_fill rfl ?_
      repeat' (first
        | refine br_t (by decide) ?_
        | exact hK
        | refine zs k_Jarr_fill rfl ?_
        | refine ⟨Nat.zero_lt_one, rfl, ?_⟩
        | refine ⟨rfl, ?_⟩
        | refine ⟨⟨Nat.zero_lt_one, rfl⟩, Nat.le_of_ble_eq_true rfl, ?_⟩
        | refine ⟨Nat.le_of_ble_eq_true rfl, Nat.le_of_ble_eq_true rfl, ?_⟩
        | refine ⟨(by first | exact Nat.zero_lt_one | assumption | omega), (by first | assumption | exact vp_in_nI (by omega) (by omega) | (unfold vp_in; decide)), ?_⟩
        | refine ⟨(by first | exact Nat.zero_lt_one | assumption | omega), rfl, ?_⟩
        | refine ⟨⟨(by first | exact Nat.zero_lt_one | assumption | omega), rfl⟩, Nat.le_of_ble_eq_true rfl, ?_⟩
        | refine ⟨(by first | exact Nat.zero_lt_one | assumption | omega), ?_⟩
        | refine ⟨Or.inl rfl, ?_⟩
        | refine ⟨Or.inr (Or.inl rfl), ?_⟩
        | refine ⟨Or.inr (Or.inr rfl), ?_⟩
        | refine ⟨Or.inr ⟨rfl, (by first | exact Or.inl rfl | exact Or.inr rfl | assumption)⟩, ?_⟩
        | refine ⟨fun h => absurd h (by decide), fun _ => ?_⟩
        | refine ⟨fun _ => ?_, fun h => absurd h (by decide)⟩
        | refine ⟨fun h => ?_, fun h => ?_⟩
        | fail)
    | succ k ih =>
      intro i x μ1 hi hx hm
      subst hx
      have hc : (nI i).toNatClampNeg = i := nI_clamp (by omega)
      refine zs k_Jarr_fill rfl ?_
      repeat' (first
        | refine br_f (show ¬ nI 20 ≤ nI i from nI_ge (by omega) (by omega)) ?_
        | refine ih (i + 1) _ _ (by omega) (by exact nI_1 i) ?_
        | refine zs k_Jarr_fill rfl ?_
        | refine ⟨Nat.zero_lt_one, rfl, ?_⟩
        | refine ⟨rfl, ?_⟩
        | refine ⟨⟨Nat.zero_lt_one, rfl⟩, Nat.le_of_ble_eq_true rfl, ?_⟩
        | refine ⟨Nat.le_of_ble_eq_true rfl, Nat.le_of_ble_eq_true rfl, ?_⟩
        | refine ⟨(by first | exact Nat.zero_lt_one | assumption | omega), (by first | assumption | exact vp_in_nI (by omega) (by omega) | (unfold vp_in; decide)), ?_⟩
        | refine ⟨(by first | exact Nat.zero_lt_one | assumption | omega), rfl, ?_⟩
        | refine ⟨⟨(by first | exact Nat.zero_lt_one | assumption | omega), rfl⟩, Nat.le_of_ble_eq_true rfl, ?_⟩
        | refine ⟨(by first | exact Nat.zero_lt_one | assumption | omega), ?_⟩
        | refine ⟨Or.inl rfl, ?_⟩
        | refine ⟨Or.inr (Or.inl rfl), ?_⟩
        | refine ⟨Or.inr (Or.inr rfl), ?_⟩
        | refine ⟨Or.inr ⟨rfl, (by first | exact Or.inl rfl | exact Or.inr rfl | assumption)⟩, ?_⟩
        | refine ⟨fun h => absurd h (by decide), fun _ => ?_⟩
        | refine ⟨fun _ => ?_, fun h => absurd h (by decide)⟩
        | refine ⟨fun h => ?_, fun h => ?_⟩
        | fail)
      rw [hc, hm]
      funext f a b
      simp only [zu]
      grind
  repeat' (first
    | refine L 20 0 _ _ (by omega) rfl ?_
    | refine zs k_Jarr_fill rfl ?_
    | refine ⟨Nat.zero_lt_one, rfl, ?_⟩
    | refine ⟨rfl, ?_⟩
    | refine ⟨⟨Nat.zero_lt_one, rfl⟩, Nat.le_of_ble_eq_true rfl, ?_⟩
    | refine ⟨Nat.le_of_ble_eq_true rfl, Nat.le_of_ble_eq_true rfl, ?_⟩
    | refine ⟨(by first | exact Nat.zero_lt_one | assumption | omega), (by first | assumption | exact vp_in_nI (by omega) (by omega) | (unfold vp_in; decide)), ?_⟩
    | refine ⟨(by first | exact Nat.zero_lt_one | assumption | omega), rfl, ?_⟩
    | refine ⟨⟨(by first | exact Nat.zero_lt_one | assumption | omega), rfl⟩, Nat.le_of_ble_eq_true rfl, ?_⟩
    | refine ⟨(by first | exact Nat.zero_lt_one | assumption | omega), ?_⟩
    | refine ⟨Or.inl rfl, ?_⟩
    | refine ⟨Or.inr (Or.inl rfl), ?_⟩
    | refine ⟨Or.inr (Or.inr rfl), ?_⟩
    | refine ⟨Or.inr ⟨rfl, (by first | exact Or.inl rfl | exact Or.inr rfl | assumption)⟩, ?_⟩
    | refine ⟨fun h => absurd h (by decide), fun _ => ?_⟩
    | refine ⟨fun _ => ?_, fun h => absurd h (by decide)⟩
    | refine ⟨fun h => ?_, fun h => ?_⟩
    | fail)
  funext f a b
  grind
theorem c_fill_40 {d t : Nat} {μ : zMu} {v : Int32} {K : Option zV → zMu → Prop} (ht : t < 4) (hK : K none (fun f i k => if f = 40 ∧ i = t ∧ k < 12 then v else μ f i k)) : Ct d m_Jarr_fill [zR 40 t, zI v] μ K := by
  refine zmeetF pf_fill (Nat.le_of_ble_eq_true rfl) (fun S => ?_)
  have L : ∀ (k i : Nat) (x : Int32) (μ1 : zMu), i + k = 12 → x = nI i → μ1 = (fun f a b => if f = 40 ∧ a = t ∧ b < i then v else μ f a b) → zG S d m_Jarr_fill K 5 [some (zR 40 t), some (zI v), some (zI x), some (zI (Int32.ofNat 12))] [] μ1 := by
    intro k
    induction k with
    | zero =>
      intro i x μ1 hi hx hm
      subst hx hm
      obtain rfl : i = 12 := by omega
      refine zs k_Jarr_fill rfl ?_
      repeat' (first
        | refine br_t (by decide) ?_
        | exact hK
        | refine zs k_Jarr_fill rfl ?_
        | refine ⟨Nat.zero_lt_one, rfl, ?_⟩
        | refine ⟨rfl, ?_⟩
        | refine ⟨⟨Nat.zero_lt_one, rfl⟩, Nat.le_of_ble_eq_true rfl, ?_⟩
        | refine ⟨Nat.le_of_ble_eq_true rfl, Nat.le_of_ble_eq_true rfl, ?_⟩
        | refine ⟨(by first | exact Nat.zero_lt_one | assumption | omega), (by first | assumption | exact vp_in_nI (by omega) (by omega) | (unfold vp_in; decide)), ?_⟩
        | refine ⟨(by first | exact Nat.zero_lt_one | assumption | omega), rfl, ?_⟩
        | refine ⟨⟨(by first | exact Nat.zero_lt_one | assumption | omega), rfl⟩, Nat.le_of_ble_eq_true rfl, ?_⟩
        | refine ⟨(by first | exact Nat.zero_lt_one | assumption | omega), ?_⟩
        | refine ⟨Or.inl rfl, ?_⟩
        | refine ⟨Or.inr (Or.inl rfl), ?_⟩
        | refine ⟨Or.inr (Or.inr rfl), ?_⟩
        | refine ⟨Or.inr ⟨rfl, (by first | exact Or.inl rfl | exact Or.inr rfl | assumption)⟩, ?_⟩
        | refine ⟨fun h => absurd h (by decide), fun _ => ?_⟩
        | refine ⟨fun _ => ?_, fun h => absurd h (by decide)⟩
        | refine ⟨fun h => ?_, fun h => ?_⟩
        | fail)
    | succ k ih =>
      intro i x μ1 hi hx hm
      subst hx
      have hc : (nI i).toNatClampNeg = i := nI_clamp (by omega)
      refine zs k_Jarr_fill rfl ?_
      repeat' (first
        | refine br_f (show ¬ nI 12 ≤ nI i from nI_ge (by omega) (by omega)) ?_
        | refine ih (i + 1) _ _ (by omega) (by exact nI_1 i) ?_
        | refine zs k_Jarr_fill rfl ?_
        | refine ⟨Nat.zero_lt_one, rfl, ?_⟩
        | refine ⟨rfl, ?_⟩
        | refine ⟨⟨Nat.zero_lt_one, rfl⟩, Nat.le_of_ble_eq_true rfl, ?_⟩
        | refine ⟨Nat.le_of_ble_eq_true rfl, Nat.le_of_ble_eq_true rfl, ?_⟩
        | refine ⟨(by first | exact Nat.zero_lt_one | assumption | omega), (by first | assumption | exact vp_in_nI (by omega) (by omega) | (unfold vp_in; decide)), ?_⟩
        | refine ⟨(by first | exact Nat.zero_lt_one | assumption | omega), rfl, ?_⟩
        | refine ⟨⟨(by first | exact Nat.zero_lt_one | assumption | omega), rfl⟩, Nat.le_of_ble_eq_true rfl, ?_⟩
        | refine ⟨(by first | exact Nat.zero_lt_one | assumption | omega), ?_⟩
        | refine ⟨Or.inl rfl, ?_⟩
        | refine ⟨Or.inr (Or.inl rfl), ?_⟩
        | refine ⟨Or.inr (Or.inr rfl), ?_⟩
        | refine ⟨Or.inr ⟨rfl, (by first | exact Or.inl rfl | exact Or.inr rfl | assumption)⟩, ?_⟩
        | refine ⟨fun h => absurd h (by decide), fun _ => ?_⟩
        | refine ⟨fun _ => ?_, fun h => absurd h (by decide)⟩
        | refine ⟨fun h => ?_, fun h => ?_⟩
        | fail)
      rw [hc, hm]
      funext f a b
      simp only [zu]
      grind
  repeat' (first
    | refine L 12 0 _ _ (by omega) rfl ?_
    | refine zs k_Jarr_fill rfl ?_
    | refine ⟨Nat.zero_lt_one, rfl, ?_⟩
    | refine ⟨rfl, ?_⟩
    | refine ⟨⟨Nat.zero_lt_one, rfl⟩, Nat.le_of_ble_eq_true rfl, ?_⟩
    | refine ⟨Nat.le_of_ble_eq_true rfl, Nat.le_of_ble_eq_true rfl, ?_⟩
    | refine ⟨(by first | exact Nat.zero_lt_one | assumption | omega), (by first | assumption | exact vp_in_nI (by omega) (by omega) | (unfold vp_in; decide)), ?_⟩
    | refine ⟨(by first | exact Nat.zero_lt_one | assumption | omega), rfl, ?_⟩
    | refine ⟨⟨(by first | exact Nat.zero_lt_one | assumption | omega), rfl⟩, Nat.le_of_ble_eq_true rfl, ?_⟩
    | refine ⟨(by first | exact Nat.zero_lt_one | assumption | omega), ?_⟩
    | refine ⟨Or.inl rfl, ?_⟩
    | refine ⟨Or.inr (Or.inl rfl), ?_⟩
    | refine ⟨Or.inr (Or.inr rfl), ?_⟩
    | refine ⟨Or.inr ⟨rfl, (by first | exact Or.inl rfl | exact Or.inr rfl | assumption)⟩, ?_⟩
    | refine ⟨fun h => absurd h (by decide), fun _ => ?_⟩
    | refine ⟨fun _ => ?_, fun h => absurd h (by decide)⟩
    | refine ⟨fun h => ?_, fun h => ?_⟩
    | fail)
  funext f a b
  grind
theorem c_fill_43 {d t : Nat} {μ : zMu} {v : Int32} {K : Option zV → zMu → Prop}  (hK : K none (fun f i k => if f = 43 ∧ i = 0 ∧ k < 12 then v else μ f i k)) : Ct d m_Jarr_fill [zR 43 0, zI v] μ K := by
  refine zmeetF pf_fill (Nat.le_of_ble_eq_true rfl) (fun S => ?_)
  have L : ∀ (k i : Nat) (x : Int32) (μ1 : zMu), i + k = 12 → x = nI i → μ1 = (fun f a b => if f = 43 ∧ a = 0 ∧ b < i then v else μ f a b) → zG S d m_Jarr_fill K 5 [some (zR 43 0), some (zI v), some (zI x), some (zI (Int32.ofNat 12))] [] μ1 := by
    intro k
    induction k with
    | zero =>
      intro i x μ1 hi hx hm
      subst hx hm
      obtain rfl : i = 12 := by omega
      refine zs k_Jarr_fill rfl ?_
      repeat' (first
        | refine br_t (by decide) ?_
        | exact hK
        | refine zs k_Jarr_fill rfl ?_
        | refine ⟨Nat.zero_lt_one, rfl, ?_⟩
        | refine ⟨rfl, ?_⟩
        | refine ⟨⟨Nat.zero_lt_one, rfl⟩, Nat.le_of_ble_eq_true rfl, ?_⟩
        | refine ⟨Nat.le_of_ble_eq_true rfl, Nat.le_of_ble_eq_true rfl, ?_⟩
        | refine ⟨(by first | exact Nat.zero_lt_one | assumption | omega), (by first | assumption | exact vp_in_nI (by omega) (by omega) | (unfold vp_in; decide)), ?_⟩
        | refine ⟨(by first | exact Nat.zero_lt_one | assumption | omega), rfl, ?_⟩
        | refine ⟨⟨(by first | exact Nat.zero_lt_one | assumption | omega), rfl⟩, Nat.le_of_ble_eq_true rfl, ?_⟩
        | refine ⟨(by first | exact Nat.zero_lt_one | assumption | omega), ?_⟩
        | refine ⟨Or.inl rfl, ?_⟩
        | refine ⟨Or.inr (Or.inl rfl), ?_⟩
        | refine ⟨Or.inr (Or.inr rfl), ?_⟩
        | refine ⟨Or.inr ⟨rfl, (by first | exact Or.inl rfl | exact Or.inr rfl | assumption)⟩, ?_⟩
        | refine ⟨fun h => absurd h (by decide), fun _ => ?_⟩
        | refine ⟨fun _ => ?_, fun h => absurd h (by decide)⟩
        | refine ⟨fun h => ?_, fun h => ?_⟩
        | fail)
    | succ k ih =>
      intro i x μ1 hi hx hm
      subst hx
      have hc : (nI i).toNatClampNeg = i := nI_clamp (by omega)
      refine zs k_Jarr_fill rfl ?_
      repeat' (first
        | refine br_f (show ¬ nI 12 ≤ nI i from nI_ge (by omega) (by omega)) ?_
        | refine ih (i + 1) _ _ (by omega) (by exact nI_1 i) ?_
        | refine zs k_Jarr_fill rfl ?_
        | refine ⟨Nat.zero_lt_one, rfl, ?_⟩
        | refine ⟨rfl, ?_⟩
        | refine ⟨⟨Nat.zero_lt_one, rfl⟩, Nat.le_of_ble_eq_true rfl, ?_⟩
        | refine ⟨Nat.le_of_ble_eq_true rfl, Nat.le_of_ble_eq_true rfl, ?_⟩
        | refine ⟨(by first | exact Nat.zero_lt_one | assumption | omega), (by first | assumption | exact vp_in_nI (by omega) (by omega) | (unfold vp_in; decide)), ?_⟩
        | refine ⟨(by first | exact Nat.zero_lt_one | assumption | omega), rfl, ?_⟩
        | refine ⟨⟨(by first | exact Nat.zero_lt_one | assumption | omega), rfl⟩, Nat.le_of_ble_eq_true rfl, ?_⟩
        | refine ⟨(by first | exact Nat.zero_lt_one | assumption | omega), ?_⟩
        | refine ⟨Or.inl rfl, ?_⟩
        | refine ⟨Or.inr (Or.inl rfl), ?_⟩
        | refine ⟨Or.inr (Or.inr rfl), ?_⟩
        | refine ⟨Or.inr ⟨rfl, (by first | exact Or.inl rfl | exact Or.inr rfl | assumption)⟩, ?_⟩
        | refine ⟨fun h => absurd h (by decide), fun _ => ?_⟩
        | refine ⟨fun _ => ?_, fun h => absurd h (by decide)⟩
        | refine ⟨fun h => ?_, fun h => ?_⟩
        | fail)
      rw [hc, hm]
      funext f a b
      simp only [zu]
      grind
  repeat' (first
    | refine L 12 0 _ _ (by omega) rfl ?_
    | refine zs k_Jarr_fill rfl ?_
    | refine ⟨Nat.zero_lt_one, rfl, ?_⟩
    | refine ⟨rfl, ?_⟩
    | refine ⟨⟨Nat.zero_lt_one, rfl⟩, Nat.le_of_ble_eq_true rfl, ?_⟩
    | refine ⟨Nat.le_of_ble_eq_true rfl, Nat.le_of_ble_eq_true rfl, ?_⟩
    | refine ⟨(by first | exact Nat.zero_lt_one | assumption | omega), (by first | assumption | exact vp_in_nI (by omega) (by omega) | (unfold vp_in; decide)), ?_⟩
    | refine ⟨(by first | exact Nat.zero_lt_one | assumption | omega), rfl, ?_⟩
    | refine ⟨⟨(by first | exact Nat.zero_lt_one | assumption | omega), rfl⟩, Nat.le_of_ble_eq_true rfl, ?_⟩
    | refine ⟨(by first | exact Nat.zero_lt_one | assumption | omega), ?_⟩
    | refine ⟨Or.inl rfl, ?_⟩
    | refine ⟨Or.inr (Or.inl rfl), ?_⟩
    | refine ⟨Or.inr (Or.inr rfl), ?_⟩
    | refine ⟨Or.inr ⟨rfl, (by first | exact Or.inl rfl | exact Or.inr rfl | assumption)⟩, ?_⟩
    | refine ⟨fun h => absurd h (by decide), fun _ => ?_⟩
    | refine ⟨fun _ => ?_, fun h => absurd h (by decide)⟩
    | refine ⟨fun h => ?_, fun h => ?_⟩
    | fail)
  funext f a b
  grind
theorem c_fill_44 {d t : Nat} {μ : zMu} {v : Int32} {K : Option zV → zMu → Prop}  (hK : K none (fun f i k => if f = 44 ∧ i = 0 ∧ k < 12 then v else μ f i k)) : Ct d m_Jarr_fill [zR 44 0, zI v] μ K := by
  refine zmeetF pf_fill (Nat.le_of_ble_eq_true rfl) (fun S => ?_)
  have L : ∀ (k i : Nat) (x : Int32) (μ1 : zMu), i + k = 12 → x = nI i → μ1 = (fun f a b => if f = 44 ∧ a = 0 ∧ b < i then v else μ f a b) → zG S d m_Jarr_fill K 5 [some (zR 44 0), some (zI v), some (zI x), some (zI (Int32.ofNat 12))] [] μ1 := by
    intro k
    induction k with
    | zero =>
      intro i x μ1 hi hx hm
      subst hx hm
      obtain rfl : i = 12 := by omega
      refine zs k_Jarr_fill rfl ?_
      repeat' (first
        | refine br_t (by decide) ?_
        | exact hK
        | refine zs k_Jarr_fill rfl ?_
        | refine ⟨Nat.zero_lt_one, rfl, ?_⟩
        | refine ⟨rfl, ?_⟩
        | refine ⟨⟨Nat.zero_lt_one, rfl⟩, Nat.le_of_ble_eq_true rfl, ?_⟩
        | refine ⟨Nat.le_of_ble_eq_true rfl, Nat.le_of_ble_eq_true rfl, ?_⟩
        | refine ⟨(by first | exact Nat.zero_lt_one | assumption | omega), (by first | assumption | exact vp_in_nI (by omega) (by omega) | (unfold vp_in; decide)), ?_⟩
        | refine ⟨(by first | exact Nat.zero_lt_one | assumption | omega), rfl, ?_⟩
        | refine ⟨⟨(by first | exact Nat.zero_lt_one | assumption | omega), rfl⟩, Nat.le_of_ble_eq_true rfl, ?_⟩
        | refine ⟨(by first | exact Nat.zero_lt_one | assumption | omega), ?_⟩
        | refine ⟨Or.inl rfl, ?_⟩
        | refine ⟨Or.inr (Or.inl rfl), ?_⟩
        | refine ⟨Or.inr (Or.inr rfl), ?_⟩
        | refine ⟨Or.inr ⟨rfl, (by first | exact Or.inl rfl | exact Or.inr rfl | assumption)⟩, ?_⟩
        | refine ⟨fun h => absurd h (by decide), fun _ => ?_⟩
        | refine ⟨fun _ => ?_, fun h => absurd h (by decide)⟩
        | refine ⟨fun h => ?_, fun h => ?_⟩
        | fail)
    | succ k ih =>
      intro i x μ1 hi hx hm
      subst hx
      have hc : (nI i).toNatClampNeg = i := nI_clamp (by omega)
      refine zs k_Jarr_fill rfl ?_
      repeat' (first
        | refine br_f (show ¬ nI 12 ≤ nI i from nI_ge (by omega) (by omega)) ?_
        | refine ih (i + 1) _ _ (by omega) (by exact nI_1 i) ?_
        | refine zs k_Jarr_fill rfl ?_
        | refine ⟨Nat.zero_lt_one, rfl, ?_⟩
        | refine ⟨rfl, ?_⟩
        | refine ⟨⟨Nat.zero_lt_one, rfl⟩, Nat.le_of_ble_eq_true rfl, ?_⟩
        | refine ⟨Nat.le_of_ble_eq_true rfl, Nat.le_of_ble_eq_true rfl, ?_⟩
        | refine ⟨(by first | exact Nat.zero_lt_one | assumption | omega), (by first | assumption | exact vp_in_nI (by omega) (by omega) | (unfold vp_in; decide)), ?_⟩
        | refine ⟨(by first | exact Nat.zero_lt_one | assumption | omega), rfl, ?_⟩
        | refine ⟨⟨(by first | exact Nat.zero_lt_one | assumption | omega), rfl⟩, Nat.le_of_ble_eq_true rfl, ?_⟩
        | refine ⟨(by first | exact Nat.zero_lt_one | assumption | omega), ?_⟩
        | refine ⟨Or.inl rfl, ?_⟩
        | refine ⟨Or.inr (Or.inl rfl), ?_⟩
        | refine ⟨Or.inr (Or.inr rfl), ?_⟩
        | refine ⟨Or.inr ⟨rfl, (by first | exact Or.inl rfl | exact Or.inr rfl | assumption)⟩, ?_⟩
        | refine ⟨fun h => absurd h (by decide), fun _ => ?_⟩
        | refine ⟨fun _ => ?_, fun h => absurd h (by decide)⟩
        | refine ⟨fun h => ?_, fun h => ?_⟩
        | fail)
      rw [hc, hm]
      funext f a b
      simp only [zu]
      grind
  repeat' (first
    | refine L 12 0 _ _ (by omega) rfl ?_
    | refine zs k_Jarr_fill rfl ?_
    | refine ⟨Nat.zero_lt_one, rfl, ?_⟩
    | refine ⟨rfl, ?_⟩
    | refine ⟨⟨Nat.zero_lt_one, rfl⟩, Nat.le_of_ble_eq_true rfl, ?_⟩
    | refine ⟨Nat.le_of_ble_eq_true rfl, Nat.le_of_ble_eq_true rfl, ?_⟩
    | refine ⟨(by first | exact Nat.zero_lt_one | assumption | omega), (by first | assumption | exact vp_in_nI (by omega) (by omega) | (unfold vp_in; decide)), ?_⟩
    | refine ⟨(by first | exact Nat.zero_lt_one | assumption | omega), rfl, ?_⟩
    | refine ⟨⟨(by first | exact Nat.zero_lt_one | assumption | omega), rfl⟩, Nat.le_of_ble_eq_true rfl, ?_⟩
    | refine ⟨(by first | exact Nat.zero_lt_one | assumption | omega), ?_⟩
    | refine ⟨Or.inl rfl, ?_⟩
    | refine ⟨Or.inr (Or.inl rfl), ?_⟩
    | refine ⟨Or.inr (Or.inr rfl), ?_⟩
    | refine ⟨Or.inr ⟨rfl, (by first | exact Or.inl rfl | exact Or.inr rfl | assumption)⟩, ?_⟩
    | refine ⟨fun h => absurd h (by decide), fun _ => ?_⟩
    | refine ⟨fun _ => ?_, fun h => absurd h (by decide)⟩
    | refine ⟨fun h => ?_, fun h => ?_⟩
    | fail)
  funext f a b
  grind
theorem c_Tb_open {d t : Nat} {μ : zMu} {r n : Int32} {K : Option zV → zMu → Prop} (ht : t < 4) (hr : r = 0 ∨ r = 1) (hK : K none (fun f i k => if f = 40 ∧ i = t ∧ k < 12 then -1 else (zu (zu μ 9 t 2 r) 9 t 0 n) f i k)) : Ct (d + 1) m_Tb_open [zR 9 t, zI r, zI n] μ K := by
  refine zmeet rfl (Nat.le_of_ble_eq_true rfl) (fun S => ?_)
  repeat' (first
    | refine ⟨Or.inr hr, ?_⟩
    | refine c_fill_40 ht ?_
    | exact hK
    | refine zs k_Tb_open rfl ?_
    | refine ⟨Nat.zero_lt_one, rfl, ?_⟩
    | refine ⟨rfl, ?_⟩
    | refine ⟨⟨Nat.zero_lt_one, rfl⟩, Nat.le_of_ble_eq_true rfl, ?_⟩
    | refine ⟨Nat.le_of_ble_eq_true rfl, Nat.le_of_ble_eq_true rfl, ?_⟩
    | refine ⟨(by first | exact Nat.zero_lt_one | assumption | omega), (by first | assumption | exact vp_in_nI (by omega) (by omega) | (unfold vp_in; decide)), ?_⟩
    | refine ⟨(by first | exact Nat.zero_lt_one | assumption | omega), rfl, ?_⟩
    | refine ⟨⟨(by first | exact Nat.zero_lt_one | assumption | omega), rfl⟩, Nat.le_of_ble_eq_true rfl, ?_⟩
    | refine ⟨(by first | exact Nat.zero_lt_one | assumption | omega), ?_⟩
    | refine ⟨Or.inl rfl, ?_⟩
    | refine ⟨Or.inr (Or.inl rfl), ?_⟩
    | refine ⟨Or.inr (Or.inr rfl), ?_⟩
    | refine ⟨Or.inr ⟨rfl, (by first | exact Or.inl rfl | exact Or.inr rfl | assumption)⟩, ?_⟩
    | refine ⟨fun h => absurd h (by decide), fun _ => ?_⟩
    | refine ⟨fun _ => ?_, fun h => absurd h (by decide)⟩
    | refine ⟨fun h => ?_, fun h => ?_⟩
    | fail)
theorem c_Tb_lowerBeside {d t : Nat} {μ : zMu} {i : Int32} {K : Option zV → zMu → Prop} (hK : K (some (zI (if i ≤ 0 then -1 else i - 1))) μ) : Ct d m_Tb_lowerBeside [zR 9 t, zI i] μ K := by
  refine zmeet rfl (Nat.le_of_ble_eq_true rfl) (fun S => ?_)
  repeat' (first
    | exact zKe hK (by rw [if_pos (by assumption)]) (by first | rfl | rw [if_pos (by assumption)])
    | exact zKe hK (by rw [if_neg (by assumption)]) (by first | rfl | rw [if_neg (by assumption)])
    | refine zs k_Tb_lowerBeside rfl ?_
    | refine ⟨Nat.zero_lt_one, rfl, ?_⟩
    | refine ⟨rfl, ?_⟩
    | refine ⟨⟨Nat.zero_lt_one, rfl⟩, Nat.le_of_ble_eq_true rfl, ?_⟩
    | refine ⟨Nat.le_of_ble_eq_true rfl, Nat.le_of_ble_eq_true rfl, ?_⟩
    | refine ⟨(by first | exact Nat.zero_lt_one | assumption | omega), (by first | assumption | exact vp_in_nI (by omega) (by omega) | (unfold vp_in; decide)), ?_⟩
    | refine ⟨(by first | exact Nat.zero_lt_one | assumption | omega), rfl, ?_⟩
    | refine ⟨⟨(by first | exact Nat.zero_lt_one | assumption | omega), rfl⟩, Nat.le_of_ble_eq_true rfl, ?_⟩
    | refine ⟨(by first | exact Nat.zero_lt_one | assumption | omega), ?_⟩
    | refine ⟨Or.inl rfl, ?_⟩
    | refine ⟨Or.inr (Or.inl rfl), ?_⟩
    | refine ⟨Or.inr (Or.inr rfl), ?_⟩
    | refine ⟨Or.inr ⟨rfl, (by first | exact Or.inl rfl | exact Or.inr rfl | assumption)⟩, ?_⟩
    | refine ⟨fun h => absurd h (by decide), fun _ => ?_⟩
    | refine ⟨fun _ => ?_, fun h => absurd h (by decide)⟩
    | refine ⟨fun h => ?_, fun h => ?_⟩
    | fail)
theorem c_Tb_lowerAround {d t : Nat} {μ : zMu} {i : Int32} {K : Option zV → zMu → Prop} (ht : t < 4) (hK : K (some (zI (if ¬ μ 9 t 2 = 0 ∧ 2 < μ 9 t 0 ∧ i = μ 9 t 0 - 1 then 0 else -1))) μ) : Ct d m_Tb_lowerAround [zR 9 t, zI i] μ K := by
  refine zmeet rfl (Nat.le_of_ble_eq_true rfl) (fun S => ?_)
  repeat' (first
    | exact zKe hK (by rw [if_pos (by grind)]) rfl
    | exact zKe hK (by rw [if_neg (by grind)]) rfl
    | refine zs k_Tb_lowerAround rfl ?_
    | refine ⟨Nat.zero_lt_one, rfl, ?_⟩
    | refine ⟨rfl, ?_⟩
    | refine ⟨⟨Nat.zero_lt_one, rfl⟩, Nat.le_of_ble_eq_true rfl, ?_⟩
    | refine ⟨Nat.le_of_ble_eq_true rfl, Nat.le_of_ble_eq_true rfl, ?_⟩
    | refine ⟨(by first | exact Nat.zero_lt_one | assumption | omega), (by first | assumption | exact vp_in_nI (by omega) (by omega) | (unfold vp_in; decide)), ?_⟩
    | refine ⟨(by first | exact Nat.zero_lt_one | assumption | omega), rfl, ?_⟩
    | refine ⟨⟨(by first | exact Nat.zero_lt_one | assumption | omega), rfl⟩, Nat.le_of_ble_eq_true rfl, ?_⟩
    | refine ⟨(by first | exact Nat.zero_lt_one | assumption | omega), ?_⟩
    | refine ⟨Or.inl rfl, ?_⟩
    | refine ⟨Or.inr (Or.inl rfl), ?_⟩
    | refine ⟨Or.inr (Or.inr rfl), ?_⟩
    | refine ⟨Or.inr ⟨rfl, (by first | exact Or.inl rfl | exact Or.inr rfl | assumption)⟩, ?_⟩
    | refine ⟨fun h => absurd h (by decide), fun _ => ?_⟩
    | refine ⟨fun _ => ?_, fun h => absurd h (by decide)⟩
    | refine ⟨fun h => ?_, fun h => ?_⟩
    | fail)
theorem c_Tb_lowerFacing {d t : Nat} {μ : zMu} {i : Int32} {K : Option zV → zMu → Prop} (ht : t < 4) (hK : K (some (zI (if μ 9 t 2 = 0 ∧ 0 ≤ μ 9 t 0 - 1 - i ∧ μ 9 t 0 - 1 - i < i then μ 9 t 0 - 1 - i else -1))) μ) : Ct d m_Tb_lowerFacing [zR 9 t, zI i] μ K := by
  refine zmeet rfl (Nat.le_of_ble_eq_true rfl) (fun S => ?_)
  repeat' (first
    | exact zKe hK (by rw [if_pos (by grind)]) rfl
    | exact zKe hK (by rw [if_neg (by grind)]) rfl
    | refine zs k_Tb_lowerFacing rfl ?_
    | refine ⟨Nat.zero_lt_one, rfl, ?_⟩
    | refine ⟨rfl, ?_⟩
    | refine ⟨⟨Nat.zero_lt_one, rfl⟩, Nat.le_of_ble_eq_true rfl, ?_⟩
    | refine ⟨Nat.le_of_ble_eq_true rfl, Nat.le_of_ble_eq_true rfl, ?_⟩
    | refine ⟨(by first | exact Nat.zero_lt_one | assumption | omega), (by first | assumption | exact vp_in_nI (by omega) (by omega) | (unfold vp_in; decide)), ?_⟩
    | refine ⟨(by first | exact Nat.zero_lt_one | assumption | omega), rfl, ?_⟩
    | refine ⟨⟨(by first | exact Nat.zero_lt_one | assumption | omega), rfl⟩, Nat.le_of_ble_eq_true rfl, ?_⟩
    | refine ⟨(by first | exact Nat.zero_lt_one | assumption | omega), ?_⟩
    | refine ⟨Or.inl rfl, ?_⟩
    | refine ⟨Or.inr (Or.inl rfl), ?_⟩
    | refine ⟨Or.inr (Or.inr rfl), ?_⟩
    | refine ⟨Or.inr ⟨rfl, (by first | exact Or.inl rfl | exact Or.inr rfl | assumption)⟩, ?_⟩
    | refine ⟨fun h => absurd h (by decide), fun _ => ?_⟩
    | refine ⟨fun _ => ?_, fun h => absurd h (by decide)⟩
    | refine ⟨fun h => ?_, fun h => ?_⟩
    | fail)
/-- nobody p sits at table t any more (seats below n) -/
def cOut (μ : zMu) (t n : Nat) (p : Int32) : zMu := fun f i k => if f = 40 ∧ i = t ∧ k < n ∧ μ 40 t k = p then -1 else μ f i k
theorem c_Tb_removePerson {d t n : Nat} {μ : zMu} {p : Int32} {K : Option zV → zMu → Prop} (ht : t < 4) (hn : μ 9 t 0 = nI n) (h12 : n ≤ 12) (hK : K none (cOut μ t n p)) : Ct d m_Tb_removePerson [zR 9 t, zI p] μ K := by
  refine zmeet rfl (Nat.le_of_ble_eq_true rfl) (fun S => ?_)
  have L : ∀ (k i : Nat) (x : Int32) (μ1 : zMu), i + k = n → x = nI i → μ1 = cOut μ t i p → zG S d m_Tb_removePerson K 2 [some (zR 9 t), some (zI p), some (zI x)] [] μ1 := by
    intro k
    induction k with
    | zero =>
      intro i x μ1 hi hx hm
      subst hx
      obtain rfl : i = n := by omega
      have hz : μ1 9 t 0 = nI i := by rw [hm]; exact hn
      refine zs k_Tb_removePerson rfl ?_
      repeat' (first
        | exact zKn hK hm
        | exact zKe hK rfl hm
        | refine zs k_Tb_removePerson rfl ?_
        | refine br_t (by simp (disch := omega) only [hz, nI_leI, nI_ltI, nI_eq]; omega) ?_
        | refine br_f (by simp (disch := omega) only [hz, nI_leI, nI_ltI, nI_eq]; omega) ?_
        | refine ⟨Nat.zero_lt_one, rfl, ?_⟩
        | refine ⟨rfl, ?_⟩
        | refine ⟨⟨Nat.zero_lt_one, rfl⟩, Nat.le_of_ble_eq_true rfl, ?_⟩
        | refine ⟨Nat.le_of_ble_eq_true rfl, Nat.le_of_ble_eq_true rfl, ?_⟩
        | refine ⟨(by first | exact Nat.zero_lt_one | assumption | omega), (by first | assumption | exact vp_in_nI (by omega) (by omega) | (unfold vp_in; decide)), ?_⟩
        | refine ⟨(by first | exact Nat.zero_lt_one | assumption | omega), rfl, ?_⟩
        | refine ⟨⟨(by first | exact Nat.zero_lt_one | assumption | omega), rfl⟩, Nat.le_of_ble_eq_true rfl, ?_⟩
        | refine ⟨(by first | exact Nat.zero_lt_one | assumption | omega), ?_⟩
        | refine ⟨Or.inl rfl, ?_⟩
        | refine ⟨Or.inr (Or.inl rfl), ?_⟩
        | refine ⟨Or.inr (Or.inr rfl), ?_⟩
        | refine ⟨Or.inr ⟨rfl, (by first | exact Or.inl rfl | exact Or.inr rfl | assumption)⟩, ?_⟩
        | refine ⟨fun h => absurd h (by decide), fun _ => ?_⟩
        | refine ⟨fun _ => ?_, fun h => absurd h (by decide)⟩
        | refine ⟨fun h => ?_, fun h => ?_⟩
        | fail)
    | succ k ih =>
      intro i x μ1 hi hx hm
      subst hx
      have hz : μ1 9 t 0 = nI n := by rw [hm]; exact hn
      have hc : (nI i).toNatClampNeg = i := nI_clamp (by omega)
      refine zs k_Tb_removePerson rfl ?_
      repeat' (first
        | refine ih (i + 1) _ _ (by omega) (by exact nI_1 i) ?_
        | refine zs k_Tb_removePerson rfl ?_
        | refine br_t (by simp (disch := omega) only [hz, nI_leI, nI_ltI, nI_eq]; omega) ?_
        | refine br_f (by simp (disch := omega) only [hz, nI_leI, nI_ltI, nI_eq]; omega) ?_
        | refine ⟨Nat.zero_lt_one, rfl, ?_⟩
        | refine ⟨rfl, ?_⟩
        | refine ⟨⟨Nat.zero_lt_one, rfl⟩, Nat.le_of_ble_eq_true rfl, ?_⟩
        | refine ⟨Nat.le_of_ble_eq_true rfl, Nat.le_of_ble_eq_true rfl, ?_⟩
        | refine ⟨(by first | exact Nat.zero_lt_one | assumption | omega), (by first | assumption | exact vp_in_nI (by omega) (by omega) | (unfold vp_in; decide)), ?_⟩
        | refine ⟨(by first | exact Nat.zero_lt_one | assumption | omega), rfl, ?_⟩
        | refine ⟨⟨(by first | exact Nat.zero_lt_one | assumption | omega), rfl⟩, Nat.le_of_ble_eq_true rfl, ?_⟩
        | refine ⟨(by first | exact Nat.zero_lt_one | assumption | omega), ?_⟩
        | refine ⟨Or.inl rfl, ?_⟩
        | refine ⟨Or.inr (Or.inl rfl), ?_⟩
        | refine ⟨Or.inr (Or.inr rfl), ?_⟩
        | refine ⟨Or.inr ⟨rfl, (by first | exact Or.inl rfl | exact Or.inr rfl | assumption)⟩, ?_⟩
        | refine ⟨fun h => absurd h (by decide), fun _ => ?_⟩
        | refine ⟨fun _ => ?_, fun h => absurd h (by decide)⟩
        | refine ⟨fun h => ?_, fun h => ?_⟩
        | fail)
      all_goals
        simp only [hc, hm] at *
        funext f a b
        simp only [cOut, zu] at *
        grind
  repeat' (first
    | refine L n 0 _ _ (by omega) rfl ?_
    | refine zs k_Tb_removePerson rfl ?_
    | refine ⟨Nat.zero_lt_one, rfl, ?_⟩
    | refine ⟨rfl, ?_⟩
    | refine ⟨⟨Nat.zero_lt_one, rfl⟩, Nat.le_of_ble_eq_true rfl, ?_⟩
    | refine ⟨Nat.le_of_ble_eq_true rfl, Nat.le_of_ble_eq_true rfl, ?_⟩
    | refine ⟨(by first | exact Nat.zero_lt_one | assumption | omega), (by first | assumption | exact vp_in_nI (by omega) (by omega) | (unfold vp_in; decide)), ?_⟩
    | refine ⟨(by first | exact Nat.zero_lt_one | assumption | omega), rfl, ?_⟩
    | refine ⟨⟨(by first | exact Nat.zero_lt_one | assumption | omega), rfl⟩, Nat.le_of_ble_eq_true rfl, ?_⟩
    | refine ⟨(by first | exact Nat.zero_lt_one | assumption | omega), ?_⟩
    | refine ⟨Or.inl rfl, ?_⟩
    | refine ⟨Or.inr (Or.inl rfl), ?_⟩
    | refine ⟨Or.inr (Or.inr rfl), ?_⟩
    | refine ⟨Or.inr ⟨rfl, (by first | exact Or.inl rfl | exact Or.inr rfl | assumption)⟩, ?_⟩
    | refine ⟨fun h => absurd h (by decide), fun _ => ?_⟩
    | refine ⟨fun _ => ?_, fun h => absurd h (by decide)⟩
    | refine ⟨fun h => ?_, fun h => ?_⟩
    | fail)
  funext f a b
  simp only [cOut]
  grind
theorem c_Tb_put {d t n : Nat} {μ : zMu} {s p : Int32} {K : Option zV → zMu → Prop} (ht : t < 4) (hn : μ 9 t 0 = nI n) (h12 : n ≤ 12) (hs : vp_in s 12) (hK : K (some (zI (μ 40 t s.toNatClampNeg))) (zu (if p = -1 then μ else cOut μ t n p) 40 t s.toNatClampNeg p)) : Ct (d + 1) m_Tb_put [zR 9 t, zI s, zI p] μ K := by
  refine zmeet rfl (Nat.le_of_ble_eq_true rfl) (fun S => ?_)
  repeat' (first
    | refine c_Tb_removePerson ht hn h12 ?_
    | exact zKe hK rfl (by rw [if_pos (by assumption)])
    | exact zKe hK rfl (by rw [if_neg (by assumption)])
    | refine zs k_Tb_put rfl ?_
    | refine ⟨Nat.zero_lt_one, rfl, ?_⟩
    | refine ⟨rfl, ?_⟩
    | refine ⟨⟨Nat.zero_lt_one, rfl⟩, Nat.le_of_ble_eq_true rfl, ?_⟩
    | refine ⟨Nat.le_of_ble_eq_true rfl, Nat.le_of_ble_eq_true rfl, ?_⟩
    | refine ⟨(by first | exact Nat.zero_lt_one | assumption | omega), (by first | assumption | exact vp_in_nI (by omega) (by omega) | (unfold vp_in; decide)), ?_⟩
    | refine ⟨(by first | exact Nat.zero_lt_one | assumption | omega), rfl, ?_⟩
    | refine ⟨⟨(by first | exact Nat.zero_lt_one | assumption | omega), rfl⟩, Nat.le_of_ble_eq_true rfl, ?_⟩
    | refine ⟨(by first | exact Nat.zero_lt_one | assumption | omega), ?_⟩
    | refine ⟨Or.inl rfl, ?_⟩
    | refine ⟨Or.inr (Or.inl rfl), ?_⟩
    | refine ⟨Or.inr (Or.inr rfl), ?_⟩
    | refine ⟨Or.inr ⟨rfl, (by first | exact Or.inl rfl | exact Or.inr rfl | assumption)⟩, ?_⟩
    | refine ⟨fun h => absurd h (by decide), fun _ => ?_⟩
    | refine ⟨fun _ => ?_, fun h => absurd h (by decide)⟩
    | refine ⟨fun h => ?_, fun h => ?_⟩
    | fail)
/-- those who sit move up, seats below i looked at: how many, the row -/
def pUp (a : Nat → Int32) : Nat → Nat × (Nat → Int32)
  | 0 => (0, a)
  | i + 1 => if (pUp a i).2 i = -1 then pUp a i else ((pUp a i).1 + 1, upd (upd (pUp a i).2 i (-1)) (pUp a i).1 ((pUp a i).2 i))
theorem pUp_le (a : Nat → Int32) : ∀ i, (pUp a i).1 ≤ i
  | 0 => Nat.le_refl _
  | i + 1 => by
    have := pUp_le a i
    rw [pUp]
    split
    · omega
    · show (pUp a i).1 + 1 ≤ i + 1
      omega
def cRow (μ : zMu) (f0 i0 : Nat) (a : Nat → Int32) : zMu := fun f i k => if f = f0 ∧ i = i0 then a k else μ f i k
theorem c_Tb_moveUp {d t n : Nat} {μ : zMu} {K : Option zV → zMu → Prop} (ht : t < 4) (hn : μ 9 t 0 = nI n) (h12 : n ≤ 12) (hK : K (some (zI (nI (pUp (μ 40 t) n).1))) (cRow μ 40 t (pUp (μ 40 t) n).2)) : Ct d m_Tb_moveUp [zR 9 t] μ K := by
  refine zmeet rfl (Nat.le_of_ble_eq_true rfl) (fun S => ?_)
  have L : ∀ (k i : Nat) (x v : Int32) (l3 : Option zV) (μ1 : zMu), i + k = n → x = nI i → v = nI (pUp (μ 40 t) i).1 → μ1 = cRow μ 40 t (pUp (μ 40 t) i).2 → zG S d m_Tb_moveUp K 4 [some (zR 9 t), some (zI v), some (zI x), l3] [] μ1 := by
    intro k
    induction k with
    | zero =>
      intro i x v l3 μ1 hi hx hv hm
      subst hx hv
      obtain rfl : i = n := by omega
      have hz : μ1 9 t 0 = nI i := by rw [hm]; exact hn
      refine zs k_Tb_moveUp rfl ?_
      repeat' (first
        | exact zKn hK hm
        | exact zKe hK rfl hm
        | refine zs k_Tb_moveUp rfl ?_
        | refine br_t (by simp (disch := omega) only [hz, nI_leI, nI_ltI, nI_eq]; omega) ?_
        | refine br_f (by simp (disch := omega) only [hz, nI_leI, nI_ltI, nI_eq]; omega) ?_
        | refine ⟨Nat.zero_lt_one, rfl, ?_⟩
        | refine ⟨rfl, ?_⟩
        | refine ⟨⟨Nat.zero_lt_one, rfl⟩, Nat.le_of_ble_eq_true rfl, ?_⟩
        | refine ⟨Nat.le_of_ble_eq_true rfl, Nat.le_of_ble_eq_true rfl, ?_⟩
        | refine ⟨(by first | exact Nat.zero_lt_one | assumption | omega), (by first | assumption | exact vp_in_nI (by omega) (by omega) | (unfold vp_in; decide)), ?_⟩
        | refine ⟨(by first | exact Nat.zero_lt_one | assumption | omega), rfl, ?_⟩
        | refine ⟨⟨(by first | exact Nat.zero_lt_one | assumption | omega), rfl⟩, Nat.le_of_ble_eq_true rfl, ?_⟩
        | refine ⟨(by first | exact Nat.zero_lt_one | assumption | omega), ?_⟩
        | refine ⟨Or.inl rfl, ?_⟩
        | refine ⟨Or.inr (Or.inl rfl), ?_⟩
        | refine ⟨Or.inr (Or.inr rfl), ?_⟩
        | refine ⟨Or.inr ⟨rfl, (by first | exact Or.inl rfl | exact Or.inr rfl | assumption)⟩, ?_⟩
        | refine ⟨fun h => absurd h (by decide), fun _ => ?_⟩
        | refine ⟨fun _ => ?_, fun h => absurd h (by decide)⟩
        | refine ⟨fun h => ?_, fun h => ?_⟩
        | fail)
    | succ k ih =>
      intro i x v l3 μ1 hi hx hv hm
      subst hx hv
      have hz : μ1 9 t 0 = nI n := by rw [hm]; exact hn
      have hle := pUp_le (μ 40 t) i
      have hc : (nI i).toNatClampNeg = i := nI_clamp (by omega)
      have hc2 : (nI (pUp (μ 40 t) i).1).toNatClampNeg = (pUp (μ 40 t) i).1 := nI_clamp (by omega)
      have hu : pUp (μ 40 t) (i + 1) = if (pUp (μ 40 t) i).2 i = -1 then pUp (μ 40 t) i else ((pUp (μ 40 t) i).1 + 1, upd (upd (pUp (μ 40 t) i).2 i (-1)) (pUp (μ 40 t) i).1 ((pUp (μ 40 t) i).2 i)) := rfl
      have hm2 : μ1 40 t i = (pUp (μ 40 t) i).2 i := by rw [hm]; exact if_pos ⟨rfl, rfl⟩
      refine zs k_Tb_moveUp rfl ?_
      repeat' (first
        | refine ih (i + 1) _ _ _ _ (by omega) (by exact nI_1 i) ?_ ?_
        | refine zs k_Tb_moveUp rfl ?_
        | refine br_t (by simp (disch := omega) only [hz, nI_leI, nI_ltI, nI_eq]; omega) ?_
        | refine br_f (by simp (disch := omega) only [hz, nI_leI, nI_ltI, nI_eq]; omega) ?_
        | refine ⟨Nat.zero_lt_one, rfl, ?_⟩
        | refine ⟨rfl, ?_⟩
        | refine ⟨⟨Nat.zero_lt_one, rfl⟩, Nat.le_of_ble_eq_true rfl, ?_⟩
        | refine ⟨Nat.le_of_ble_eq_true rfl, Nat.le_of_ble_eq_true rfl, ?_⟩
        | refine ⟨(by first | exact Nat.zero_lt_one | assumption | omega), (by first | assumption | exact vp_in_nI (by omega) (by omega) | (unfold vp_in; decide)), ?_⟩
        | refine ⟨(by first | exact Nat.zero_lt_one | assumption | omega), rfl, ?_⟩
        | refine ⟨⟨(by first | exact Nat.zero_lt_one | assumption | omega), rfl⟩, Nat.le_of_ble_eq_true rfl, ?_⟩
        | refine ⟨(by first | exact Nat.zero_lt_one | assumption | omega), ?_⟩
        | refine ⟨Or.inl rfl, ?_⟩
        | refine ⟨Or.inr (Or.inl rfl), ?_⟩
        | refine ⟨Or.inr (Or.inr rfl), ?_⟩
        | refine ⟨Or.inr ⟨rfl, (by first | exact Or.inl rfl | exact Or.inr rfl | assumption)⟩, ?_⟩
        | refine ⟨fun h => absurd h (by decide), fun _ => ?_⟩
        | refine ⟨fun _ => ?_, fun h => absurd h (by decide)⟩
        | refine ⟨fun h => ?_, fun h => ?_⟩
        | fail)
      all_goals
        simp only [hc, hc2, hm2] at *
        rw [hu]
      · rw [if_pos (by assumption)]
      · rw [if_pos (by assumption), hm]
      · rw [if_neg (by assumption)]
        exact nI_1 _
      · rw [if_neg (by assumption), hm]
        funext f a b
        simp only [cRow, zu, upd]
        grind
  repeat' (first
    | refine L n 0 _ _ _ _ (by omega) rfl rfl ?_
    | refine zs k_Tb_moveUp rfl ?_
    | refine ⟨Nat.zero_lt_one, rfl, ?_⟩
    | refine ⟨rfl, ?_⟩
    | refine ⟨⟨Nat.zero_lt_one, rfl⟩, Nat.le_of_ble_eq_true rfl, ?_⟩
    | refine ⟨Nat.le_of_ble_eq_true rfl, Nat.le_of_ble_eq_true rfl, ?_⟩
    | refine ⟨(by first | exact Nat.zero_lt_one | assumption | omega), (by first | assumption | exact vp_in_nI (by omega) (by omega) | (unfold vp_in; decide)), ?_⟩
    | refine ⟨(by first | exact Nat.zero_lt_one | assumption | omega), rfl, ?_⟩
    | refine ⟨⟨(by first | exact Nat.zero_lt_one | assumption | omega), rfl⟩, Nat.le_of_ble_eq_true rfl, ?_⟩
    | refine ⟨(by first | exact Nat.zero_lt_one | assumption | omega), ?_⟩
    | refine ⟨Or.inl rfl, ?_⟩
    | refine ⟨Or.inr (Or.inl rfl), ?_⟩
    | refine ⟨Or.inr (Or.inr rfl), ?_⟩
    | refine ⟨Or.inr ⟨rfl, (by first | exact Or.inl rfl | exact Or.inr rfl | assumption)⟩, ?_⟩
    | refine ⟨fun h => absurd h (by decide), fun _ => ?_⟩
    | refine ⟨fun _ => ?_, fun h => absurd h (by decide)⟩
    | refine ⟨fun h => ?_, fun h => ?_⟩
    | fail)
  funext f a b
  simp only [cRow, pUp]
  grind
end
section
/-! STRING CONSTANTS: length and charAt, with the kit's rows -/
def CtV (X : zX) (d : Nat) (M : zMth) (as : List Value) (μ : zMu) (K : Option zV → zMu → Prop) : Prop := ∀ l : Launch, Met l M.1 (zws M) (zrm d) (va_Pc as (fun U => zSt X U ∧ zRep X μ U U.heap)) (zQc X K) 0 0 (zA X)
theorem zin_T {w : Cond} (h : w ∈ lw_tbl) (g : goodWord w = true) : w ∈ zT := List.mem_filter.mpr ⟨h, g⟩
theorem zmeetV {X : zX} {d : Nat} {M : zMth} {as : List Value} {μ : zMu} {K : Option zV → zMu → Prop} (hy : plainFor M.1 = true) (hn : (lg_sl as).length ≤ M.2.2.1)
    (h : ∀ (p : Program) (l : Launch) (e : Env) (s : State) (m : MethodId) (args : Array Value) (below : List Frame) (meth : Method) (c : Code) (la : Array Slot), zCx X p (zrm d) s m args meth c 0 0 M.1.cls M.2.1 M.2.2.1 d M.2.2.2 → zRep X μ s s.heap → lv_has la M.2.2.1 (lv_args 0 as) → W p l e (zrm d) s m args below meth c s.heap [] 0 0 (MQ below (zQc X K) args s 0 0 (zA X)) (F0 m 0 la [])) : CtV X d M as μ K := by
  intro l
  refine va_MetF (cc := M.2.1) (maxL := M.2.2.1) (ret := M.2.2.2) hy rfl ?_
  intro p e s m args below meth c s₁ B hml hv
  obtain ⟨rfl, hst, hR⟩ := hv
  have hts := atoms_spec (ws := zws M) B.pre
  have hown : s.vm.findClass M.1.cls = some m.cls := findClass_of_methodNamed B.named
  have C : zCx X p (zrm d) s m as.toArray meth c 0 0 M.1.cls M.2.1 M.2.2.1 d M.2.2.2 := ⟨B.exec, B.bytes, hml, hown, fun w hw => hts w (List.mem_cons_of_mem _ hw), B.returns, B.notSynchronized, hst, Nat.le_refl _, Nat.le_refl _, Nat.le_refl _, Nat.le_refl _⟩
  have hl := lv_entry as (n := M.2.2.1) hn
  rw [lg_entry_eq]
  exact h p l e s m _ below meth c _ C hR hl
theorem CtV.to {d : Nat} {M : zMth} {as : List zV} {μ : zMu} {K : Option zV → zMu → Prop} (h : ∀ X : zX, CtV X d M (as.map (ztr X)) μ K) : Ct d M as μ K := Ct_iff.mpr (fun l X => h X l)
section ZV
variable {X : zX} {p : Program} {l : Launch} {e : Env} {R : Room} {s : State} {m : MethodId} {args : Array Value} {below : List Frame} {meth : Method} {c : Code} {cells slots : Nat} {Q : State → Prop}
variable {own : String} {cc : ByteArray} {nL d : Nat} {rt : Option FieldType} {H : Heap} {locs : List Loc} {la : Array Slot} {μ : zMu} {pc : Nat}
theorem zs_statV (C : zCx X p R s m args meth c cells slots own cc nL (d + 1) rt) (hR : zRep X μ s H) (hS : va_S (zA X) s.heap H locs) (hl : la.size = nL) {idx : Nat} {M : zMth} {as : List Value} {r : List zV} {K : Option zV → zMu → Prop}
    (h0 : Cond.methodLink own idx M.1 ∈ zT) (h1 : Cond.static M.1 ∈ zT) (h3 : Cond.initialized M.1.cls ∈ zT) (h4 : Cond.code M.1 M.2.1 M.2.2.1 M.2.2.2 ∈ zT) (hd : M.1.cls ≠ "java/lang/invoke/MethodHandle" ∧ M.1.cls ≠ "java/lang/invoke/VarHandle" ∧ (parseMethodDescriptor M.1.desc).map (fun d => d.parameters.length) = some as.length) (hmL : M.2.2.1 ≤ 40) (hsum : (r.map zcat).sum ≤ 8) (hc : CtV X d M as μ K) (hdg : decode cc pc = .ok (.invokestatic idx, 3))
    (kk : ∀ (q : Option zV) (μ' : zMu) (H1 : Heap) (locs1 : List Loc), K q μ' → zRep X μ' s H1 → va_S (zA X) s.heap H1 locs1 → W p l e R s m args below meth c H1 locs1 cells slots Q (F0 m (pc + 3) la ((zpush q r).map (ztr X)))) : W p l e R s m args below meth c H locs cells slots Q (F0 m pc la (as.reverse ++ r.map (ztr X))) := by
  obtain ⟨hx, hb, hml, hown, hts, hr, hlocks, hst, hfr, hlo, hce, hsl⟩ := C
  have hM := hc l
  refine zs_back (as := []) (va_runS (As := as) (rest := r.map (ztr X)) (nL := nL) (bytes := M.2.1) (maxL := M.2.2.1) (ret := M.2.2.2) (own := own) (index := idx) (n := as.length) ⟨hx, hb, hml, hown, hts⟩ hM (va_cwS as.length hts (zGood h4 (fun w hw => by
      simp only [List.mem_cons, List.not_mem_nil, or_false] at hw
      rcases hw with rfl | rfl | rfl
      · exact h0
      · exact h1
      · exact h3)) rfl rfl rfl hd ⟨?_, ?_⟩) ⟨?_, fun U hU hW => ?_⟩ rfl rfl hl rfl (lv_room (by rw [zcat_sum]; exact hsum)) hdg ⟨by simpa using hce, by simpa using hsl⟩) hS kk
  · show d + 1 + 1 ≤ R.frames
    exact hfr
  · show 8 + (M.2.2.1 + 11) + 100 * (d + 1) ≤ R.locals
    omega
  · intro a U g mk h
    obtain ⟨h1, h2, h3⟩ := h
    exact ⟨h1, zSmov (locs := []) (U := U.calling g mk a) (Vm.Alike.refl U.vm) (fun _ _ _ _ h => vk_R.same rfl h) ⟨Nat.le_refl _, fun _ _ _ => rfl, fun _ h => by cases h⟩ h2, zRmov (U := U.calling g mk a) (Vm.Alike.refl U.vm) h3⟩
  · subst hU
    exact ⟨rfl, zSmov hW.alike (fun _ _ _ _ h => vk_R.warm hW h) hS hst, zRmov hW.alike hR⟩
theorem zret_v {K : Option zV → zMu → Prop} {x : Int32} {ty : FieldType} (C : zCx X p R s m args meth c cells slots own cc nL d (some ty)) (hn : narrow ty (.int x) = .int x) (hk : K (some (.inl x)) μ) (hR : zRep X μ s H) (hS : va_S (zA X) s.heap H locs) (hdg : decode cc pc = .ok (.ireturn, 1)) : W p l e R s m args below meth c H locs cells slots (MQ below (zQc X K) args s cells slots (zA X)) (F0 m pc la [.int x]) := by
  obtain ⟨hx, hb, hml, hown, hts, hr, hlocks, hst, -⟩ := C
  exact W.zret (ty := ty) hx hb hr hn (fun t ht hW => ⟨⟨some (.inl x), μ, rfl, hk, by rw [ht]; exact zRmov hW.alike hR⟩, hS.F ht⟩) hS.2.2 hdg hlocks
end ZV
def m_coder : zMth := (yJ0_coder_7d493, cJ0_coder_7d493, 1, some .byte)
def m_latin : zMth := (yJ0_isLatin1_aae02, cJ0_isLatin1_aae02, 1, some .boolean)
def m_lchar : zMth := (yJ1_charAt_3b067, cJ1_charAt_3b067, 2, some .char)
def m_check : zMth := (yJ0_checkIndex_df160, cJ0_checkIndex_df160, 2, none)
def m_pre : zMth := (yJ3_checkIndex_8e157, cJ3_checkIndex_8e157, 3, some .int)
theorem pd_pre : m_pre.1.cls ≠ "java/lang/invoke/MethodHandle" ∧ m_pre.1.cls ≠ "java/lang/invoke/VarHandle" ∧ (parseMethodDescriptor m_pre.1.desc).map (fun d => d.parameters.length) = some 3 := by decide +kernel
theorem pd_check : m_check.1.cls ≠ "java/lang/invoke/MethodHandle" ∧ m_check.1.cls ≠ "java/lang/invoke/VarHandle" ∧ (parseMethodDescriptor m_check.1.desc).map (fun d => d.parameters.length) = some 2 := by decide +kernel
theorem pd_lchar : m_lchar.1.cls ≠ "java/lang/invoke/MethodHandle" ∧ m_lchar.1.cls ≠ "java/lang/invoke/VarHandle" ∧ (parseMethodDescriptor m_lchar.1.desc).map (fun d => d.parameters.length) = some 2 := by decide +kernel
theorem w_cs : Cond.fieldLink RJ0 38 "java/lang/String" "COMPACT_STRINGS" "Z" ∈ zT := zin_T (by decide +kernel) rfl
theorem w_co : Cond.fieldLink RJ0 15 "java/lang/String" "coder" "B" ∈ zT := zin_T (by decide +kernel) rfl
theorem w_va : Cond.fieldLink RJ0 9 "java/lang/String" "value" "[B" ∈ zT := zin_T (by decide +kernel) rfl
theorem w_fo : Cond.fieldLink RJ0 1053 "jdk/internal/util/Preconditions" "SIOOBE_FORMATTER" "Ljava/util/function/BiFunction;" ∈ zT := zin_T (by decide +kernel) rfl
set_option maxHeartbeats 4000000 in
theorem v_coder {X : zX} {d k : Nat} {μ : zMu} {K : Option zV → zMu → Prop} (hk : k < 13) (hK : K (some (zI 0)) μ) : CtV X d m_coder [.ref (X.1 200 k)] μ K := by
  refine zmeetV pf_cod (Nat.le_of_ble_eq_true rfl) (fun p l e s m args below meth c la C hR hl => ?_)
  obtain ⟨hx, hb, hml, hown, hts, hr, hlocks, hst, -⟩ := id C
  refine va_gets hx hb hst.2.2.1 va_S.rf hown (hts _ w_cs) (fun _ h => h) (by decide +kernel) ?_
  refine lv_if_eq (off := 10) (tgt := 13) hx hb (by decide +kernel) (by decide) (fun h => absurd h (by decide)) (fun _ => ?_)
  refine lv_aload_n (k := 0) hx hb (by decide +kernel) rfl (lv_at hl 0 rfl) ?_
  refine vk_getf hx hb (hst.1.1 k hk).2.1 va_S.rf hown (hts _ w_co) (fun _ h => h) (by decide +kernel) ?_
  refine lv_goto (off := 4) (tgt := 14) hx hb (by decide +kernel) (by decide) ?_
  exact zret_v C rfl hK hR va_S.rf (by decide +kernel)
set_option maxHeartbeats 4000000 in
theorem v_latin {X : zX} {d k : Nat} {μ : zMu} {K : Option zV → zMu → Prop} (hk : k < 13) (hK : K (some (zI 1)) μ) : CtV X d m_latin [.ref (X.1 200 k)] μ K := by
  refine zmeetV pf_lat (Nat.le_of_ble_eq_true rfl) (fun p l e s m args below meth c la C hR hl => ?_)
  obtain ⟨hx, hb, hml, hown, hts, hr, hlocks, hst, -⟩ := id C
  refine va_gets hx hb hst.2.2.1 va_S.rf hown (hts _ w_cs) (fun _ h => h) (by decide +kernel) ?_
  refine lv_if_eq (off := 14) (tgt := 17) hx hb (by decide +kernel) (by decide) (fun h => absurd h (by decide)) (fun _ => ?_)
  refine lv_aload_n (k := 0) hx hb (by decide +kernel) rfl (lv_at hl 0 rfl) ?_
  refine vk_getf hx hb (hst.1.1 k hk).2.1 va_S.rf hown (hts _ w_co) (fun _ h => h) (by decide +kernel) ?_
  refine lv_if_ne (off := 7) (tgt := 17) hx hb (by decide +kernel) (by decide) (fun h => absurd rfl h) (fun _ => ?_)
  refine lv_iconst (n := 1) (v := 1) hx hb (by decide +kernel) (by decide) ?_
  refine lv_goto (off := 4) (tgt := 18) hx hb (by decide +kernel) (by decide) ?_
  exact zret_v C rfl hK hR va_S.rf (by decide +kernel)
set_option maxHeartbeats 4000000 in
theorem v_pre {X : zX} {d : Nat} {i n : Int32} {v : Value} {μ : zMu} {K : Option zV → zMu → Prop} (hv : v.category = 1) (h0 : ¬ i < 0) (h1 : i < n) (hK : K (some (zI i)) μ) : CtV X d m_pre [.int i, .int n, v] μ K := by
  refine zmeetV pf_pre (by rw [zsl_cons, zsl_cons, zsl_cons, hv]; exact Nat.le_refl 3) (fun p l e s m args below meth c la C hR hl => ?_)
  obtain ⟨hx, hb, hml, hown, hts, hr, hlocks, hst, -⟩ := id C
  refine lv_iload_n (k := 0) hx hb (by decide +kernel) rfl (lv_at hl 0 rfl) ?_
  refine lv_if_lt (off := 8) (tgt := 9) hx hb (by decide +kernel) (by decide) (fun h => absurd h h0) (fun _ => ?_)
  refine lv_iload_n (k := 0) hx hb (by decide +kernel) rfl (lv_at hl 0 rfl) ?_
  refine lv_iload_n (k := 1) hx hb (by decide +kernel) rfl (lv_at hl 1 rfl) ?_
  refine lv_icmp_lt (off := 10) (tgt := 16) hx hb (by decide +kernel) (by decide) (fun _ => ?_) (fun h => absurd h1 h)
  refine lv_iload_n (k := 0) hx hb (by decide +kernel) rfl (lv_at hl 0 rfl) ?_
  exact zret_v C rfl hK hR va_S.rf (by decide +kernel)
set_option maxHeartbeats 4000000 in
theorem v_check {X : zX} {d : Nat} {i n : Int32} {μ : zMu} {K : Option zV → zMu → Prop} (h0 : ¬ i < 0) (h1 : i < n) (hK : K none μ) : CtV X (d + 1) m_check [.int i, .int n] μ K := by
  refine zmeetV pf_chk (Nat.le_of_ble_eq_true rfl) (fun p l e s m args below meth c la C hR hl => ?_)
  obtain ⟨hx, hb, hml, hown, hts, hr, hlocks, hst, -⟩ := id C
  refine lv_iload_n (k := 0) hx hb (by decide +kernel) rfl (lv_at hl 0 rfl) ?_
  refine lv_iload_n (k := 1) hx hb (by decide +kernel) rfl (lv_at hl 1 rfl) ?_
  have key : ∀ v : Value, v.category = 1 → va_Z "jdk/internal/util/Preconditions" "SIOOBE_FORMATTER" "Ljava/util/function/BiFunction;" v (zA X) s s.heap → W p l e (zrm (d + 1)) s m args below meth c s.heap [] 0 0 (MQ below (zQc X K) args s 0 0 (zA X)) (F0 m 2 la [.int n, .int i]) := by
    intro v hv hz
    refine va_gets hx hb hz va_S.rf hown (hts _ w_fo) (fun _ h => h) (by decide +kernel) ?_
    refine zs_statV (idx := 1059) (r := []) (M := m_pre) (as := [.int i, .int n, v]) (K := fun q μ' => q = some (zI i) ∧ μ' = μ) C hR va_S.rf hl.1 (zin_T (by decide +kernel) rfl) (zin_T (by decide +kernel) rfl) (zin_T (by decide +kernel) rfl) (zin_T (by decide +kernel) rfl) pd_pre (by decide) (by decide) (v_pre hv h0 h1 ⟨rfl, rfl⟩) (by decide +kernel) (fun q μ' H1 locs1 hk hR1 hS1 => ?_)
    obtain ⟨rfl, hm⟩ := hk
    rw [hm] at hR1
    refine lv_pop hx hb (by decide +kernel) rfl ?_
    exact W.vret hx hb hr (fun t ht hW => ⟨⟨none, μ, rfl, hK, by rw [ht]; exact zRmov hW.alike hR1⟩, hS1.F ht⟩) hS1.2.2 (by decide +kernel) hlocks
  rcases hst.2.2.2.2.2.2.2 with hz | ⟨t, hz⟩
  · exact key _ rfl hz
  · exact key _ rfl hz
theorem zbyt_all : ∀ k, k < 13 → zLen.getD k 0 = (zByt.getD k []).length ∧ ∀ j, j < (zByt.getD k []).length → ((((zByt.getD k []).getD j 0 &&& 255).toUInt32 % 65536).toInt32 = (zByt.getD k []).getD j 0 ∧ narrow .char (.int ((zByt.getD k []).getD j 0)) = .int ((zByt.getD k []).getD j 0)) := by decide +kernel
def zch (k j : Nat) : Int32 := (zByt.getD k []).getD j 0
set_option maxHeartbeats 4000000 in
theorem v_lchar {X : zX} {d k j : Nat} {μ : zMu} {K : Option zV → zMu → Prop} (hk : k < 13) (hj : j < zLen.getD k 0) (hK : K (some (zI (zch k j))) μ) : CtV X (d + 2) m_lchar [.ref (X.2.2.2.2.1 k), .int (nI j)] μ K := by
  refine zmeetV pf_lch (Nat.le_of_ble_eq_true rfl) (fun p l e s m args below meth c la C hR hl => ?_)
  obtain ⟨hx, hb, hml, hown, hts, hr, hlocks, hst, -⟩ := id C
  have hl100 : zLen.getD k 0 < 100 := (by decide : ∀ k, k < 13 → zLen.getD k 0 < 100) k hk
  refine lv_iload_n (k := 1) hx hb (by decide +kernel) rfl (lv_at hl 1 rfl) ?_
  refine lv_aload_n (k := 0) hx hb (by decide +kernel) rfl (lv_at hl 0 rfl) ?_
  refine va_tlen hx hb (hst.1.1 k hk).2.2.2 va_S.rf rfl (by decide +kernel) ?_
  refine zs_statV (idx := 9) (r := []) (M := m_check) (as := [.int (nI j), .int (Int32.ofNat (zLen.getD k 0))]) (K := fun q μ' => q = none ∧ μ' = μ) C hR va_S.rf hl.1 (zin_T (by decide +kernel) rfl) (zin_T (by decide +kernel) rfl) (zin_T (by decide +kernel) rfl) (zin_T (by decide +kernel) rfl) pd_check (by decide) (by decide) (v_check (nI_pos (by omega)) (nI_lt hj (by omega)) ⟨rfl, rfl⟩) (by decide +kernel) (fun q μ' H1 locs1 hk1 hR1 hS1 => ?_)
  obtain ⟨rfl, hm⟩ := hk1
  rw [hm] at hR1
  refine lv_aload_n (k := 0) hx hb (by decide +kernel) rfl (lv_at hl 0 rfl) ?_
  refine lv_iload_n (k := 1) hx hb (by decide +kernel) rfl (lv_at hl 1 rfl) ?_
  have hz := zbyt_all k hk
  refine va_tb hx hb (hst.1.1 k hk).2.2.2 hS1 (vp_in_nI hj (by omega)) (by rw [nI_clamp (by omega)]) (by decide +kernel) ?_
  refine lv_sipush (n := 255) (v := 255) hx hb (by decide +kernel) (by decide) ?_
  refine lv_iand hx hb (by decide +kernel) ?_
  refine lv_i2c hx hb (by decide +kernel) (hz.2 j (by rw [← hz.1]; exact hj)).1 ?_
  exact zret_v C (hz.2 j (by rw [← hz.1]; exact hj)).2 hK hR1 hS1 (by decide +kernel)
theorem c_coder {d k : Nat} {μ : zMu} {K : Option zV → zMu → Prop} (hk : k < 13) (hK : K (some (zI 0)) μ) : Ct d m_coder [zR 200 k] μ K := CtV.to (fun _ => v_coder hk hK)
theorem c_latin {d k : Nat} {μ : zMu} {K : Option zV → zMu → Prop} (hk : k < 13) (hK : K (some (zI 1)) μ) : Ct d m_latin [zR 200 k] μ K := CtV.to (fun _ => v_latin hk hK)
set_option maxHeartbeats 4000000 in
theorem c_Jstr_length {d k : Nat} {μ : zMu} {K : Option zV → zMu → Prop} (hk : k < 13) (hK : K (some (zI (nI (zLen.getD k 0)))) μ) : Ct (d + 1) m_Jstr_length [zR 200 k] μ K := by
  refine CtV.to (fun X => ?_)
  refine zmeetV pf_len (Nat.le_of_ble_eq_true rfl) (fun p l e s m args below meth c la C hR hl => ?_)
  obtain ⟨hx, hb, hml, hown, hts, hr, hlocks, hst, -⟩ := id C
  have hl100 : zLen.getD k 0 < 100 := (by decide : ∀ k, k < 13 → zLen.getD k 0 < 100) k hk
  refine lv_aload_n (k := 0) hx hb (by decide +kernel) rfl (lv_at hl 0 rfl) ?_
  refine vk_getf hx hb (hst.1.1 k hk).2.2.1 va_S.rf hown (hts _ w_va) (fun _ h => h) (by decide +kernel) ?_
  refine va_tlen hx hb (hst.1.1 k hk).2.2.2 va_S.rf rfl (by decide +kernel) ?_
  refine lv_aload_n (k := 0) hx hb (by decide +kernel) rfl (lv_at hl 0 rfl) ?_
  refine zs_virt (idx := 335) (ls := [some (zR 200 k)]) (r := [zI (nI (zLen.getD k 0))]) (M := m_coder) (as := []) (f := 200) (i := k) (K := fun q μ' => q = some (zI 0) ∧ μ' = μ) C hR va_S.rf ⟨Nat.le_refl _, hl⟩ (vk_recv hst.1 hk va_S.rf) (zin_T (by decide +kernel) rfl) (zin_T (by decide +kernel) rfl) (zin_T (by decide +kernel) rfl) (zin_T (by decide +kernel) rfl) (zin_T (by decide +kernel) rfl) (by decide +kernel) (by decide) (Nat.le_of_ble_eq_true rfl) (c_coder hk ⟨rfl, rfl⟩) (by decide +kernel) (fun q μ' H1 locs1 hk1 hR1 hS1 => ?_)
  obtain ⟨rfl, hm⟩ := hk1
  rw [hm] at hR1
  refine lv_ishr hx hb (by decide +kernel) ?_
  refine zret_v C rfl ?_ hR1 hS1 (by decide +kernel)
  rw [sc_shr0 (by omega)]
  exact hK
set_option maxHeartbeats 4000000 in
theorem c_Jstr_charAt {d k j : Nat} {μ : zMu} {x : Int32} {K : Option zV → zMu → Prop} (hk : k < 13) (hj : j < zLen.getD k 0) (hxj : x = nI j) (hK : K (some (zI (zch k j))) μ) : Ct (d + 3) m_Jstr_charAt [zR 200 k, zI x] μ K := by
  subst hxj
  refine CtV.to (fun X => ?_)
  refine zmeetV pf_chr (Nat.le_of_ble_eq_true rfl) (fun p l e s m args below meth c la C hR hl => ?_)
  obtain ⟨hx, hb, hml, hown, hts, hr, hlocks, hst, -⟩ := id C
  have hz := zbyt_all k hk
  refine lv_aload_n (k := 0) hx hb (by decide +kernel) rfl (lv_at hl 0 rfl) ?_
  refine zs_virt (idx := 492) (ls := [some (zR 200 k), some (zI (nI j))]) (r := []) (M := m_latin) (as := []) (f := 200) (i := k) (K := fun q μ' => q = some (zI 1) ∧ μ' = μ) C hR va_S.rf ⟨Nat.le_refl _, hl⟩ (vk_recv hst.1 hk va_S.rf) (zin_T (by decide +kernel) rfl) (zin_T (by decide +kernel) rfl) (zin_T (by decide +kernel) rfl) (zin_T (by decide +kernel) rfl) (zin_T (by decide +kernel) rfl) (by decide +kernel) (by decide) (Nat.le_of_ble_eq_true rfl) (c_latin hk ⟨rfl, rfl⟩) (by decide +kernel) (fun q μ' H1 locs1 hk1 hR1 hS1 => ?_)
  obtain ⟨rfl, hm⟩ := hk1
  rw [hm] at hR1
  refine lv_if_eq (off := 12) (tgt := 16) hx hb (by decide +kernel) (by decide) (fun h => absurd h (by decide)) (fun _ => ?_)
  refine lv_aload_n (k := 0) hx hb (by decide +kernel) rfl (lv_at hl 0 rfl) ?_
  refine vk_getf hx hb (hst.1.1 k hk).2.2.1 hS1 hown (hts _ w_va) (fun _ h => h) (by decide +kernel) ?_
  refine lv_iload_n (k := 1) hx hb (by decide +kernel) rfl (lv_at hl 1 rfl) ?_
  refine zs_statV (idx := 495) (r := []) (M := m_lchar) (as := [.ref (X.2.2.2.2.1 k), .int (nI j)]) (K := fun q μ' => q = some (zI (zch k j)) ∧ μ' = μ) C hR1 hS1 hl.1 (zin_T (by decide +kernel) rfl) (zin_T (by decide +kernel) rfl) (zin_T (by decide +kernel) rfl) (zin_T (by decide +kernel) rfl) pd_lchar (by decide) (by decide) (v_lchar hk hj ⟨rfl, rfl⟩) (by decide +kernel) (fun q μ2 H2 locs2 hk2 hR2 hS2 => ?_)
  obtain ⟨rfl, hm2⟩ := hk2
  rw [hm2] at hR2
  exact zret_v C (hz.2 j (by rw [← hz.1]; exact hj)).2 hK hR2 hS2 (by decide +kernel)
end
section
/-! TAPE: small -/
theorem c_Tp_clear {d : Nat} {μ : zMu} {K : Option zV → zMu → Prop} (hK : K (some (zI (μ 2 0 0))) (zu μ 2 0 0 0)) : Ct d m_Tp_clear [zR 2 0] μ K := by
  refine zmeet rfl (Nat.le_of_ble_eq_true rfl) (fun S => ?_)
  repeat' (first
    | exact hK
    | refine zs k_Tp_clear rfl ?_
    | refine ⟨Nat.zero_lt_one, rfl, ?_⟩
    | refine ⟨rfl, ?_⟩
    | refine ⟨⟨Nat.zero_lt_one, rfl⟩, Nat.le_of_ble_eq_true rfl, ?_⟩
    | refine ⟨Nat.le_of_ble_eq_true rfl, Nat.le_of_ble_eq_true rfl, ?_⟩
    | refine ⟨(by first | exact Nat.zero_lt_one | assumption | omega), (by first | assumption | exact vp_in_nI (by omega) (by omega) | (unfold vp_in; decide)), ?_⟩
    | refine ⟨(by first | exact Nat.zero_lt_one | assumption | omega), rfl, ?_⟩
    | refine ⟨⟨(by first | exact Nat.zero_lt_one | assumption | omega), rfl⟩, Nat.le_of_ble_eq_true rfl, ?_⟩
    | refine ⟨(by first | exact Nat.zero_lt_one | assumption | omega), ?_⟩
    | refine ⟨Or.inl rfl, ?_⟩
    | refine ⟨Or.inr (Or.inl rfl), ?_⟩
    | refine ⟨Or.inr (Or.inr rfl), ?_⟩
    | refine ⟨Or.inr ⟨rfl, (by first | exact Or.inl rfl | exact Or.inr rfl | assumption)⟩, ?_⟩
    | refine ⟨fun h => absurd h (by decide), fun _ => ?_⟩
    | refine ⟨fun _ => ?_, fun h => absurd h (by decide)⟩
    | refine ⟨fun h => ?_, fun h => ?_⟩
    | fail)
theorem c_Tp_isDigit {d : Nat} {μ : zMu} {x : Int32} {K : Option zV → zMu → Prop} (h1 : 48 ≤ x ∧ x ≤ 57 → K (some (zI 1)) μ) (h0 : ¬ (48 ≤ x ∧ x ≤ 57) → K (some (zI 0)) μ) : Ct d m_Tp_isDigit [zI x] μ K := by
  refine zmeet rfl (Nat.le_of_ble_eq_true rfl) (fun S => ?_)
  repeat' (first
    | exact h0 (by grind)
    | exact h1 (by grind)
    | refine zs k_Tp_isDigit rfl ?_
    | refine ⟨Nat.zero_lt_one, rfl, ?_⟩
    | refine ⟨rfl, ?_⟩
    | refine ⟨⟨Nat.zero_lt_one, rfl⟩, Nat.le_of_ble_eq_true rfl, ?_⟩
    | refine ⟨Nat.le_of_ble_eq_true rfl, Nat.le_of_ble_eq_true rfl, ?_⟩
    | refine ⟨(by first | exact Nat.zero_lt_one | assumption | omega), (by first | assumption | exact vp_in_nI (by omega) (by omega) | (unfold vp_in; decide)), ?_⟩
    | refine ⟨(by first | exact Nat.zero_lt_one | assumption | omega), rfl, ?_⟩
    | refine ⟨⟨(by first | exact Nat.zero_lt_one | assumption | omega), rfl⟩, Nat.le_of_ble_eq_true rfl, ?_⟩
    | refine ⟨(by first | exact Nat.zero_lt_one | assumption | omega), ?_⟩
    | refine ⟨Or.inl rfl, ?_⟩
    | refine ⟨Or.inr (Or.inl rfl), ?_⟩
    | refine ⟨Or.inr (Or.inr rfl), ?_⟩
    | refine ⟨Or.inr ⟨rfl, (by first | exact Or.inl rfl | exact Or.inr rfl | assumption)⟩, ?_⟩
    | refine ⟨fun h => absurd h (by decide), fun _ => ?_⟩
    | refine ⟨fun _ => ?_, fun h => absurd h (by decide)⟩
    | refine ⟨fun h => ?_, fun h => ?_⟩
    | fail)
/-- the byte at a place, -1 behind the end -/
def pB (a : Nat → Int32) (n j : Nat) : Int32 := if j < n then a j else -1
theorem c_Tp_byteAt {d n j : Nat} {μ : zMu} {x : Int32} {K : Option zV → zMu → Prop} (hn : μ 2 0 0 = nI n) (h200 : n ≤ 200) (hj : j < 2 ^ 31) (hx : x = nI j) (hK : K (some (zI (pB (μ 18 0) n j))) μ) : Ct d m_Tp_byteAt [zR 2 0, zI x] μ K := by
  subst hx
  refine zmeet rfl (Nat.le_of_ble_eq_true rfl) (fun S => ?_)
  have hc : (nI j).toNatClampNeg = j := nI_clamp hj
  unfold pB at hK
  rcases Nat.lt_or_ge j n with h | h
  · rw [if_pos h] at hK
    repeat' (first
      | refine br_f (nI_pos hj) ?_
      | exact zKe hK (by rw [hc]) rfl
      | refine zs k_Tp_byteAt rfl ?_
      | refine br_t (by simp (disch := omega) only [hn, nI_leI, nI_ltI, nI_eq]; omega) ?_
      | refine br_f (by simp (disch := omega) only [hn, nI_leI, nI_ltI, nI_eq]; omega) ?_
      | refine ⟨Nat.zero_lt_one, rfl, ?_⟩
      | refine ⟨rfl, ?_⟩
      | refine ⟨⟨Nat.zero_lt_one, rfl⟩, Nat.le_of_ble_eq_true rfl, ?_⟩
      | refine ⟨Nat.le_of_ble_eq_true rfl, Nat.le_of_ble_eq_true rfl, ?_⟩
      | refine ⟨(by first | exact Nat.zero_lt_one | assumption | omega), (by first | assumption | exact vp_in_nI (by omega) (by omega) | (unfold vp_in; decide)), ?_⟩
      | refine ⟨(by first | exact Nat.zero_lt_one | assumption | omega), rfl, ?_⟩
      | refine ⟨⟨(by first | exact Nat.zero_lt_one | assumption | omega), rfl⟩, Nat.le_of_ble_eq_true rfl, ?_⟩
      | refine ⟨(by first | exact Nat.zero_lt_one | assumption | omega), ?_⟩
      | refine ⟨Or.inl rfl, ?_⟩
      | refine ⟨Or.inr (Or.inl rfl), ?_⟩
      | refine ⟨Or.inr (Or.inr rfl), ?_⟩
      | refine ⟨Or.inr ⟨rfl, (by first | exact Or.inl rfl | exact Or.inr rfl | assumption)⟩, ?_⟩
      | refine ⟨fun h => absurd h (by decide), fun _ => ?_⟩
      | refine ⟨fun _ => ?_, fun h => absurd h (by decide)⟩
      | refine ⟨fun h => ?_, fun h => ?_⟩
      | fail)
  · rw [if_neg (by omega)] at hK
    repeat' (first
      | refine br_f (nI_pos hj) ?_
      | exact hK
      | refine zs k_Tp_byteAt rfl ?_
      | refine br_t (by simp (disch := omega) only [hn, nI_leI, nI_ltI, nI_eq]; omega) ?_
      | refine br_f (by simp (disch := omega) only [hn, nI_leI, nI_ltI, nI_eq]; omega) ?_
      | refine ⟨Nat.zero_lt_one, rfl, ?_⟩
      | refine ⟨rfl, ?_⟩
      | refine ⟨⟨Nat.zero_lt_one, rfl⟩, Nat.le_of_ble_eq_true rfl, ?_⟩
      | refine ⟨Nat.le_of_ble_eq_true rfl, Nat.le_of_ble_eq_true rfl, ?_⟩
      | refine ⟨(by first | exact Nat.zero_lt_one | assumption | omega), (by first | assumption | exact vp_in_nI (by omega) (by omega) | (unfold vp_in; decide)), ?_⟩
      | refine ⟨(by first | exact Nat.zero_lt_one | assumption | omega), rfl, ?_⟩
      | refine ⟨⟨(by first | exact Nat.zero_lt_one | assumption | omega), rfl⟩, Nat.le_of_ble_eq_true rfl, ?_⟩
      | refine ⟨(by first | exact Nat.zero_lt_one | assumption | omega), ?_⟩
      | refine ⟨Or.inl rfl, ?_⟩
      | refine ⟨Or.inr (Or.inl rfl), ?_⟩
      | refine ⟨Or.inr (Or.inr rfl), ?_⟩
      | refine ⟨Or.inr ⟨rfl, (by first | exact Or.inl rfl | exact Or.inr rfl | assumption)⟩, ?_⟩
      | refine ⟨fun h => absurd h (by decide), fun _ => ?_⟩
      | refine ⟨fun _ => ?_, fun h => absurd h (by decide)⟩
      | refine ⟨fun h => ?_, fun h => ?_⟩
      | fail)
theorem c_Tp_hasMore {d : Nat} {μ : zMu} {K : Option zV → zMu → Prop} (h1 : μ 2 0 3 = -1 ∧ μ 2 0 2 < μ 2 0 0 → K (some (zI 1)) μ) (h0 : ¬ (μ 2 0 3 = -1 ∧ μ 2 0 2 < μ 2 0 0) → K (some (zI 0)) μ) : Ct d m_Tp_hasMore [zR 2 0] μ K := by
  refine zmeet rfl (Nat.le_of_ble_eq_true rfl) (fun S => ?_)
  repeat' (first
    | exact h0 (by grind)
    | exact h1 (by grind)
    | refine zs k_Tp_hasMore rfl ?_
    | refine ⟨Nat.zero_lt_one, rfl, ?_⟩
    | refine ⟨rfl, ?_⟩
    | refine ⟨⟨Nat.zero_lt_one, rfl⟩, Nat.le_of_ble_eq_true rfl, ?_⟩
    | refine ⟨Nat.le_of_ble_eq_true rfl, Nat.le_of_ble_eq_true rfl, ?_⟩
    | refine ⟨(by first | exact Nat.zero_lt_one | assumption | omega), (by first | assumption | exact vp_in_nI (by omega) (by omega) | (unfold vp_in; decide)), ?_⟩
    | refine ⟨(by first | exact Nat.zero_lt_one | assumption | omega), rfl, ?_⟩
    | refine ⟨⟨(by first | exact Nat.zero_lt_one | assumption | omega), rfl⟩, Nat.le_of_ble_eq_true rfl, ?_⟩
    | refine ⟨(by first | exact Nat.zero_lt_one | assumption | omega), ?_⟩
    | refine ⟨Or.inl rfl, ?_⟩
    | refine ⟨Or.inr (Or.inl rfl), ?_⟩
    | refine ⟨Or.inr (Or.inr rfl), ?_⟩
    | refine ⟨Or.inr ⟨rfl, (by first | exact Or.inl rfl | exact Or.inr rfl | assumption)⟩, ?_⟩
    | refine ⟨fun h => absurd h (by decide), fun _ => ?_⟩
    | refine ⟨fun _ => ?_, fun h => absurd h (by decide)⟩
    | refine ⟨fun h => ?_, fun h => ?_⟩
    | fail)
theorem c_Tp_fail {d : Nat} {μ : zMu} {x : Int32} {K : Option zV → zMu → Prop} (hK : K none (if μ 2 0 3 = -1 then zu μ 2 0 3 x else μ)) : Ct d m_Tp_fail [zR 2 0, zI x] μ K := by
  refine zmeet rfl (Nat.le_of_ble_eq_true rfl) (fun S => ?_)
  repeat' (first
    | exact zKn hK (by rw [if_pos (by assumption)])
    | exact zKn hK (by rw [if_neg (by assumption)])
    | refine zs k_Tp_fail rfl ?_
    | refine ⟨Nat.zero_lt_one, rfl, ?_⟩
    | refine ⟨rfl, ?_⟩
    | refine ⟨⟨Nat.zero_lt_one, rfl⟩, Nat.le_of_ble_eq_true rfl, ?_⟩
    | refine ⟨Nat.le_of_ble_eq_true rfl, Nat.le_of_ble_eq_true rfl, ?_⟩
    | refine ⟨(by first | exact Nat.zero_lt_one | assumption | omega), (by first | assumption | exact vp_in_nI (by omega) (by omega) | (unfold vp_in; decide)), ?_⟩
    | refine ⟨(by first | exact Nat.zero_lt_one | assumption | omega), rfl, ?_⟩
    | refine ⟨⟨(by first | exact Nat.zero_lt_one | assumption | omega), rfl⟩, Nat.le_of_ble_eq_true rfl, ?_⟩
    | refine ⟨(by first | exact Nat.zero_lt_one | assumption | omega), ?_⟩
    | refine ⟨Or.inl rfl, ?_⟩
    | refine ⟨Or.inr (Or.inl rfl), ?_⟩
    | refine ⟨Or.inr (Or.inr rfl), ?_⟩
    | refine ⟨Or.inr ⟨rfl, (by first | exact Or.inl rfl | exact Or.inr rfl | assumption)⟩, ?_⟩
    | refine ⟨fun h => absurd h (by decide), fun _ => ?_⟩
    | refine ⟨fun _ => ?_, fun h => absurd h (by decide)⟩
    | refine ⟨fun h => ?_, fun h => ?_⟩
    | fail)
/-- a blank is read: place, fault -/
def pBlank (a : Nat → Int32) (n at_ : Nat) (fl : Int32) : Nat × Int32 := if fl = -1 then (if pB a n at_ = 32 then (at_ + 1, -1) else (at_, nI at_)) else (at_, fl)
/-- the tape with place and fault -/
def cAt (μ : zMu) (q : Nat × Int32) : zMu := zu (zu μ 2 0 2 (nI q.1)) 2 0 3 q.2
theorem cAt_id {μ : zMu} {at_ : Nat} (h : μ 2 0 2 = nI at_) : cAt μ (at_, μ 2 0 3) = μ := by
  funext f i k
  simp only [cAt, zu]
  grind
theorem c_Tp_readBlank {d n at_ : Nat} {μ : zMu} {K : Option zV → zMu → Prop} (hn : μ 2 0 0 = nI n) (h200 : n ≤ 200) (hat : μ 2 0 2 = nI at_) (ha : at_ ≤ 1000) (hK : K none (cAt μ (pBlank (μ 18 0) n at_ (μ 2 0 3)))) : Ct (d + 1) m_Tp_readBlank [zR 2 0] μ K := by
  refine zmeet rfl (Nat.le_of_ble_eq_true rfl) (fun S => ?_)
  have hid := cAt_id hat
  have h1 : μ 2 0 2 + 1 = nI (at_ + 1) := by rw [hat, nI_1]
  unfold pBlank at hK
  by_cases hf : μ 2 0 3 = -1
  · rw [if_pos hf] at hK
    by_cases hb : pB (μ 18 0) n at_ = 32
    · rw [if_pos hb] at hK
      repeat' (first
        | refine br_t hb ?_
        | refine ⟨fun h => absurd hf h, fun _ => ?_⟩
        | refine ⟨fun h => absurd hb h, fun _ => ?_⟩
        | refine c_Tp_byteAt (j := at_) hn h200 (by omega) hat ?_
        | refine zKn hK ?_
        | refine zs k_Tp_readBlank rfl ?_
        | refine ⟨Nat.zero_lt_one, rfl, ?_⟩
        | refine ⟨rfl, ?_⟩
        | refine ⟨⟨Nat.zero_lt_one, rfl⟩, Nat.le_of_ble_eq_true rfl, ?_⟩
        | refine ⟨Nat.le_of_ble_eq_true rfl, Nat.le_of_ble_eq_true rfl, ?_⟩
        | refine ⟨(by first | exact Nat.zero_lt_one | assumption | omega), (by first | assumption | exact vp_in_nI (by omega) (by omega) | (unfold vp_in; decide)), ?_⟩
        | refine ⟨(by first | exact Nat.zero_lt_one | assumption | omega), rfl, ?_⟩
        | refine ⟨⟨(by first | exact Nat.zero_lt_one | assumption | omega), rfl⟩, Nat.le_of_ble_eq_true rfl, ?_⟩
        | refine ⟨(by first | exact Nat.zero_lt_one | assumption | omega), ?_⟩
        | refine ⟨Or.inl rfl, ?_⟩
        | refine ⟨Or.inr (Or.inl rfl), ?_⟩
        | refine ⟨Or.inr (Or.inr rfl), ?_⟩
        | refine ⟨Or.inr ⟨rfl, (by first | exact Or.inl rfl | exact Or.inr rfl | assumption)⟩, ?_⟩
        | refine ⟨fun h => absurd h (by decide), fun _ => ?_⟩
        | refine ⟨fun _ => ?_, fun h => absurd h (by decide)⟩
        | refine ⟨fun h => ?_, fun h => ?_⟩
        | fail)
      funext f i k
      simp only [cAt, zu]
      grind
    · rw [if_neg hb] at hK
      repeat' (first
        | refine ⟨fun h => absurd hf h, fun _ => ?_⟩
        | refine ⟨fun _ => ?_, fun h => absurd h hb⟩
        | refine c_Tp_byteAt (j := at_) hn h200 (by omega) hat ?_
        | refine c_Tp_fail ?_
        | refine zKn hK ?_
        | refine zs k_Tp_readBlank rfl ?_
        | refine ⟨Nat.zero_lt_one, rfl, ?_⟩
        | refine ⟨rfl, ?_⟩
        | refine ⟨⟨Nat.zero_lt_one, rfl⟩, Nat.le_of_ble_eq_true rfl, ?_⟩
        | refine ⟨Nat.le_of_ble_eq_true rfl, Nat.le_of_ble_eq_true rfl, ?_⟩
        | refine ⟨(by first | exact Nat.zero_lt_one | assumption | omega), (by first | assumption | exact vp_in_nI (by omega) (by omega) | (unfold vp_in; decide)), ?_⟩
        | refine ⟨(by first | exact Nat.zero_lt_one | assumption | omega), rfl, ?_⟩
        | refine ⟨⟨(by first | exact Nat.zero_lt_one | assumption | omega), rfl⟩, Nat.le_of_ble_eq_true rfl, ?_⟩
        | refine ⟨(by first | exact Nat.zero_lt_one | assumption | omega), ?_⟩
        | refine ⟨Or.inl rfl, ?_⟩
        | refine ⟨Or.inr (Or.inl rfl), ?_⟩
        | refine ⟨Or.inr (Or.inr rfl), ?_⟩
        | refine ⟨Or.inr ⟨rfl, (by first | exact Or.inl rfl | exact Or.inr rfl | assumption)⟩, ?_⟩
        | refine ⟨fun h => absurd h (by decide), fun _ => ?_⟩
        | refine ⟨fun _ => ?_, fun h => absurd h (by decide)⟩
        | refine ⟨fun h => ?_, fun h => ?_⟩
        | fail)
      rw [if_pos hf]
      funext f i k
      simp only [cAt, zu]
      grind
  · rw [if_neg hf, hid] at hK
    repeat' (first
      | refine ⟨fun _ => ?_, fun h => absurd h hf⟩
      | refine c_Tp_fail ?_
      | refine zKn hK ?_
      | refine zs k_Tp_readBlank rfl ?_
      | refine ⟨Nat.zero_lt_one, rfl, ?_⟩
      | refine ⟨rfl, ?_⟩
      | refine ⟨⟨Nat.zero_lt_one, rfl⟩, Nat.le_of_ble_eq_true rfl, ?_⟩
      | refine ⟨Nat.le_of_ble_eq_true rfl, Nat.le_of_ble_eq_true rfl, ?_⟩
      | refine ⟨(by first | exact Nat.zero_lt_one | assumption | omega), (by first | assumption | exact vp_in_nI (by omega) (by omega) | (unfold vp_in; decide)), ?_⟩
      | refine ⟨(by first | exact Nat.zero_lt_one | assumption | omega), rfl, ?_⟩
      | refine ⟨⟨(by first | exact Nat.zero_lt_one | assumption | omega), rfl⟩, Nat.le_of_ble_eq_true rfl, ?_⟩
      | refine ⟨(by first | exact Nat.zero_lt_one | assumption | omega), ?_⟩
      | refine ⟨Or.inl rfl, ?_⟩
      | refine ⟨Or.inr (Or.inl rfl), ?_⟩
      | refine ⟨Or.inr (Or.inr rfl), ?_⟩
      | refine ⟨Or.inr ⟨rfl, (by first | exact Or.inl rfl | exact Or.inr rfl | assumption)⟩, ?_⟩
      | refine ⟨fun h => absurd h (by decide), fun _ => ?_⟩
      | refine ⟨fun _ => ?_, fun h => absurd h (by decide)⟩
      | refine ⟨fun h => ?_, fun h => ?_⟩
      | fail)
    rw [if_neg hf]
end
section
/-! TAPE: words and numbers -/
/-- a word of a list with blanks between is sought: its index and length, or how far one fits -/
def pWord (b : Nat → Int32) : List Int32 → Nat → Nat → Nat → Bool → (Nat × Nat) ⊕ Nat
  | [], ix, mt, lg, ft => if ft then .inl (ix, mt) else .inr lg
  | c :: r, ix, mt, lg, ft => if c = 32 then (if ft then .inl (ix, mt) else pWord b r (ix + 1) 0 lg true) else if ft = true ∧ b mt = c then pWord b r ix (mt + 1) (if lg < mt + 1 then mt + 1 else lg) true else pWord b r ix mt lg false
/-- readWord: the answer, place and fault -/
def pRdW (a : Nat → Int32) (n at_ : Nat) (fl : Int32) (tx : List Int32) : Int32 × Nat × Int32 :=
  if fl = -1 then (match pWord (fun j => pB a n (at_ + j)) tx 0 0 0 true with
    | .inl q => (nI q.1, at_ + q.2, -1)
    | .inr lg => (-1, at_, nI (at_ + lg))) else (-1, at_, fl)
theorem zLen_tx {k : Nat} (hk : k < 13) : (zByt.getD k []).length = zLen.getD k 0 := ((zbyt_all k hk).1).symm
set_option maxHeartbeats 4000000 in
theorem c_Tp_readWord {d n at_ k : Nat} {μ : zMu} {K : Option zV → zMu → Prop} (hk : k < 13) (hn : μ 2 0 0 = nI n) (h200 : n ≤ 200) (hat : μ 2 0 2 = nI at_) (ha : at_ ≤ 1000) (hK : K (some (zI (pRdW (μ 18 0) n at_ (μ 2 0 3) (zByt.getD k [])).1)) (cAt μ (pRdW (μ 18 0) n at_ (μ 2 0 3) (zByt.getD k [])).2)) : Ct (d + 4) m_Tp_readWord [zR 2 0, zR 200 k] μ K := by
  refine zmeet rfl (Nat.le_of_ble_eq_true rfl) (fun S => ?_)
  have hid := cAt_id hat
  have hl100 : zLen.getD k 0 < 100 := (by decide : ∀ k, k < 13 → zLen.getD k 0 < 100) k hk
  have htx := zLen_tx hk
  unfold pRdW at hK
  by_cases hf : μ 2 0 3 = -1
  · rw [if_pos hf] at hK
    generalize hR : pWord (fun j => pB (μ 18 0) n (at_ + j)) (zByt.getD k []) 0 0 0 true = Rv at hK
    have L : ∀ (r : List Int32) (i ix mt lg : Nat) (ft : Bool) (xi xm xl xf xv : Int32) (l7 : Option zV), (zByt.getD k []).drop i = r → i ≤ zLen.getD k 0 → mt ≤ i → lg ≤ i → ix ≤ i → pWord (fun j => pB (μ 18 0) n (at_ + j)) r ix mt lg ft = Rv → xi = nI ix → xm = nI mt → xl = nI lg → xf = (if ft then 1 else 0) → xv = nI i → zG S (d + 4) m_Tp_readWord K 23 [some (zR 2 0), some (zR 200 k), some (zI xi), some (zI xm), some (zI xl), some (zI xf), some (zI xv), l7] [] μ := by
      intro r
      induction r with
      | nil =>
        intro i ix mt lg ft xi xm xl xf xv l7 hr hi hmt hlg hix hpw e1 e2 e3 e4 e5
        have hil : i = zLen.getD k 0 := by
          have := List.drop_eq_nil_iff.mp hr
          omega
        subst e1 e2 e3 e4 e5
        subst hil
        have hn1 : ¬ nI (zLen.getD k 0) < nI (zLen.getD k 0) := nI_nlt (Nat.le_refl _) (by omega)
        have hn2 : nI (zLen.getD k 0) < nI (zLen.getD k 0) + 1 := by rw [nI_1]; exact nI_lt (by omega) (by omega)
        have hat2 : μ 2 0 2 + nI mt = nI (at_ + mt) := by rw [hat, nI_add]
        have hat3 : μ 2 0 2 + nI lg = nI (at_ + lg) := by rw [hat, nI_add]
        cases ft with
        | true =>
          have hRv : Rv = .inl (ix, mt) := hpw.symm
          rw [hRv] at hK
          refine zs k_Tp_readWord rfl ?_
          repeat' (first
            | refine ⟨⟨rfl, hk⟩, Nat.le_of_ble_eq_true rfl, ?_⟩
            | refine c_Jstr_length hk ?_
            | refine br_f hn1 ?_
            | refine br_t rfl ?_
            | refine zKe hK rfl ?_
            | refine zs k_Tp_readWord rfl ?_
            | refine ⟨Nat.zero_lt_one, rfl, ?_⟩
            | refine ⟨rfl, ?_⟩
            | refine ⟨⟨Nat.zero_lt_one, rfl⟩, Nat.le_of_ble_eq_true rfl, ?_⟩
            | refine ⟨Nat.le_of_ble_eq_true rfl, Nat.le_of_ble_eq_true rfl, ?_⟩
            | refine ⟨(by first | exact Nat.zero_lt_one | assumption | omega), (by first | assumption | exact vp_in_nI (by omega) (by omega) | (unfold vp_in; decide)), ?_⟩
            | refine ⟨(by first | exact Nat.zero_lt_one | assumption | omega), rfl, ?_⟩
            | refine ⟨⟨(by first | exact Nat.zero_lt_one | assumption | omega), rfl⟩, Nat.le_of_ble_eq_true rfl, ?_⟩
            | refine ⟨(by first | exact Nat.zero_lt_one | assumption | omega), ?_⟩
            | refine ⟨Or.inl rfl, ?_⟩
            | refine ⟨Or.inr (Or.inl rfl), ?_⟩
            | refine ⟨Or.inr (Or.inr rfl), ?_⟩
            | refine ⟨Or.inr ⟨rfl, (by first | exact Or.inl rfl | exact Or.inr rfl | assumption)⟩, ?_⟩
            | refine ⟨fun h => absurd h (by decide), fun _ => ?_⟩
            | refine ⟨fun _ => ?_, fun h => absurd h (by decide)⟩
            | refine ⟨fun h => ?_, fun h => ?_⟩
            | fail)
          funext f a b
          simp only [cAt, zu]
          grind
        | false =>
          have hRv : Rv = .inr lg := hpw.symm
          rw [hRv] at hK
          refine zs k_Tp_readWord rfl ?_
          repeat' (first
            | refine ⟨⟨rfl, hk⟩, Nat.le_of_ble_eq_true rfl, ?_⟩
            | refine c_Jstr_length hk ?_
            | refine br_f hn1 ?_
            | refine br_t rfl ?_
            | refine br_t hn2 ?_
            | refine c_Tp_fail ?_
            | refine zKe hK rfl ?_
            | refine zs k_Tp_readWord rfl ?_
            | refine ⟨Nat.zero_lt_one, rfl, ?_⟩
            | refine ⟨rfl, ?_⟩
            | refine ⟨⟨Nat.zero_lt_one, rfl⟩, Nat.le_of_ble_eq_true rfl, ?_⟩
            | refine ⟨Nat.le_of_ble_eq_true rfl, Nat.le_of_ble_eq_true rfl, ?_⟩
            | refine ⟨(by first | exact Nat.zero_lt_one | assumption | omega), (by first | assumption | exact vp_in_nI (by omega) (by omega) | (unfold vp_in; decide)), ?_⟩
            | refine ⟨(by first | exact Nat.zero_lt_one | assumption | omega), rfl, ?_⟩
            | refine ⟨⟨(by first | exact Nat.zero_lt_one | assumption | omega), rfl⟩, Nat.le_of_ble_eq_true rfl, ?_⟩
            | refine ⟨(by first | exact Nat.zero_lt_one | assumption | omega), ?_⟩
            | refine ⟨Or.inl rfl, ?_⟩
            | refine ⟨Or.inr (Or.inl rfl), ?_⟩
            | refine ⟨Or.inr (Or.inr rfl), ?_⟩
            | refine ⟨Or.inr ⟨rfl, (by first | exact Or.inl rfl | exact Or.inr rfl | assumption)⟩, ?_⟩
            | refine ⟨fun h => absurd h (by decide), fun _ => ?_⟩
            | refine ⟨fun _ => ?_, fun h => absurd h (by decide)⟩
            | refine ⟨fun h => ?_, fun h => ?_⟩
            | fail)
          rw [if_pos hf]
          funext f a b
          simp only [cAt, zu]
          grind
      | cons c r ih =>
        intro i ix mt lg ft xi xm xl xf xv l7 hr hi hmt hlg hix hpw e1 e2 e3 e4 e5
        obtain ⟨hlt, hgc, hdr, -⟩ := sc_dropC hr
        rw [htx] at hlt
        subst e1 e2 e3 e4 e5
        have hn1 : ¬ nI (zLen.getD k 0) < nI i := nI_nlt (by omega) (by omega)
        have hn2 : ¬ nI i = nI (zLen.getD k 0) := fun h => absurd ((nI_eq (by omega) (by omega)).mp h) (by omega)
        have hat2 : μ 2 0 2 + nI mt = nI (at_ + mt) := by rw [hat, nI_add]
        have hch : zch k i = c := hgc
        by_cases hc : c = 32
        · cases ft with
          | true =>
            have hRv : Rv = .inl (ix, mt) := by rw [← hpw, pWord, if_pos hc]; rfl
            rw [hRv] at hK
            refine zs k_Tp_readWord rfl ?_
            repeat' (first
              | refine ⟨⟨rfl, hk⟩, Nat.le_of_ble_eq_true rfl, ?_⟩
              | refine c_Jstr_length hk ?_
              | (refine c_Jstr_charAt (j := i) hk hlt rfl ?_; rw [hch])
              | refine br_f hn1 ?_
              | refine br_f hn2 ?_
              | refine ⟨fun h => absurd hc h, fun _ => ?_⟩
              | refine zKe hK rfl ?_
              | refine zs k_Tp_readWord rfl ?_
              | refine ⟨Nat.zero_lt_one, rfl, ?_⟩
              | refine ⟨rfl, ?_⟩
              | refine ⟨⟨Nat.zero_lt_one, rfl⟩, Nat.le_of_ble_eq_true rfl, ?_⟩
              | refine ⟨Nat.le_of_ble_eq_true rfl, Nat.le_of_ble_eq_true rfl, ?_⟩
              | refine ⟨(by first | exact Nat.zero_lt_one | assumption | omega), (by first | assumption | exact vp_in_nI (by omega) (by omega) | (unfold vp_in; decide)), ?_⟩
              | refine ⟨(by first | exact Nat.zero_lt_one | assumption | omega), rfl, ?_⟩
              | refine ⟨⟨(by first | exact Nat.zero_lt_one | assumption | omega), rfl⟩, Nat.le_of_ble_eq_true rfl, ?_⟩
              | refine ⟨(by first | exact Nat.zero_lt_one | assumption | omega), ?_⟩
              | refine ⟨Or.inl rfl, ?_⟩
              | refine ⟨Or.inr (Or.inl rfl), ?_⟩
              | refine ⟨Or.inr (Or.inr rfl), ?_⟩
              | refine ⟨Or.inr ⟨rfl, (by first | exact Or.inl rfl | exact Or.inr rfl | assumption)⟩, ?_⟩
              | refine ⟨fun h => absurd h (by decide), fun _ => ?_⟩
              | refine ⟨fun _ => ?_, fun h => absurd h (by decide)⟩
              | refine ⟨fun h => ?_, fun h => ?_⟩
              | fail)
            funext f a b
            simp only [cAt, zu]
            grind
          | false =>
            rw [pWord, if_pos hc] at hpw
            refine zs k_Tp_readWord rfl ?_
            repeat' (first
              | refine ⟨⟨rfl, hk⟩, Nat.le_of_ble_eq_true rfl, ?_⟩
              | refine c_Jstr_length hk ?_
              | (refine c_Jstr_charAt (j := i) hk hlt rfl ?_; rw [hch])
              | refine br_f hn1 ?_
              | refine br_f hn2 ?_
              | refine ⟨fun h => absurd hc h, fun _ => ?_⟩
              | refine ih (i + 1) (ix + 1) 0 lg true _ _ _ _ _ _ hdr (by omega) (by omega) (by omega) (by omega) hpw (by exact nI_1 ix) rfl rfl rfl (by exact nI_1 i)
              | refine zs k_Tp_readWord rfl ?_
              | refine ⟨Nat.zero_lt_one, rfl, ?_⟩
              | refine ⟨rfl, ?_⟩
              | refine ⟨⟨Nat.zero_lt_one, rfl⟩, Nat.le_of_ble_eq_true rfl, ?_⟩
              | refine ⟨Nat.le_of_ble_eq_true rfl, Nat.le_of_ble_eq_true rfl, ?_⟩
              | refine ⟨(by first | exact Nat.zero_lt_one | assumption | omega), (by first | assumption | exact vp_in_nI (by omega) (by omega) | (unfold vp_in; decide)), ?_⟩
              | refine ⟨(by first | exact Nat.zero_lt_one | assumption | omega), rfl, ?_⟩
              | refine ⟨⟨(by first | exact Nat.zero_lt_one | assumption | omega), rfl⟩, Nat.le_of_ble_eq_true rfl, ?_⟩
              | refine ⟨(by first | exact Nat.zero_lt_one | assumption | omega), ?_⟩
              | refine ⟨Or.inl rfl, ?_⟩
              | refine ⟨Or.inr (Or.inl rfl), ?_⟩
              | refine ⟨Or.inr (Or.inr rfl), ?_⟩
              | refine ⟨Or.inr ⟨rfl, (by first | exact Or.inl rfl | exact Or.inr rfl | assumption)⟩, ?_⟩
              | refine ⟨fun h => absurd h (by decide), fun _ => ?_⟩
              | refine ⟨fun _ => ?_, fun h => absurd h (by decide)⟩
              | refine ⟨fun h => ?_, fun h => ?_⟩
              | fail)
        · rw [pWord, if_neg hc] at hpw
          cases ft with
          | false =>
            rw [if_neg (by simp)] at hpw
            refine zs k_Tp_readWord rfl ?_
            repeat' (first
              | refine ⟨⟨rfl, hk⟩, Nat.le_of_ble_eq_true rfl, ?_⟩
              | refine c_Jstr_length hk ?_
              | (refine c_Jstr_charAt (j := i) hk hlt rfl ?_; rw [hch])
              | refine br_f hn1 ?_
              | refine br_f hn2 ?_
              | refine ⟨fun _ => ?_, fun h => absurd h hc⟩
              | refine ih (i + 1) ix mt lg false _ _ _ _ _ _ hdr (by omega) (by omega) (by omega) (by omega) hpw rfl rfl rfl rfl (by exact nI_1 i)
              | refine zs k_Tp_readWord rfl ?_
              | refine ⟨Nat.zero_lt_one, rfl, ?_⟩
              | refine ⟨rfl, ?_⟩
              | refine ⟨⟨Nat.zero_lt_one, rfl⟩, Nat.le_of_ble_eq_true rfl, ?_⟩
              | refine ⟨Nat.le_of_ble_eq_true rfl, Nat.le_of_ble_eq_true rfl, ?_⟩
              | refine ⟨(by first | exact Nat.zero_lt_one | assumption | omega), (by first | assumption | exact vp_in_nI (by omega) (by omega) | (unfold vp_in; decide)), ?_⟩
              | refine ⟨(by first | exact Nat.zero_lt_one | assumption | omega), rfl, ?_⟩
              | refine ⟨⟨(by first | exact Nat.zero_lt_one | assumption | omega), rfl⟩, Nat.le_of_ble_eq_true rfl, ?_⟩
              | refine ⟨(by first | exact Nat.zero_lt_one | assumption | omega), ?_⟩
              | refine ⟨Or.inl rfl, ?_⟩
              | refine ⟨Or.inr (Or.inl rfl), ?_⟩
              | refine ⟨Or.inr (Or.inr rfl), ?_⟩
              | refine ⟨Or.inr ⟨rfl, (by first | exact Or.inl rfl | exact Or.inr rfl | assumption)⟩, ?_⟩
              | refine ⟨fun h => absurd h (by decide), fun _ => ?_⟩
              | refine ⟨fun _ => ?_, fun h => absurd h (by decide)⟩
              | refine ⟨fun h => ?_, fun h => ?_⟩
              | fail)
          | true =>
            by_cases hb : pB (μ 18 0) n (at_ + mt) = c
            · rw [if_pos ⟨rfl, hb⟩] at hpw
              refine zs k_Tp_readWord rfl ?_
              repeat' (first
                | refine ⟨⟨rfl, hk⟩, Nat.le_of_ble_eq_true rfl, ?_⟩
                | refine c_Jstr_length hk ?_
                | (refine c_Jstr_charAt (j := i) hk hlt rfl ?_; rw [hch])
                | refine c_Tp_byteAt (j := at_ + mt) hn h200 (by omega) hat2 ?_
                | refine c_Jmath_max ?_
                | refine br_f hn1 ?_
                | refine br_f hn2 ?_
                | refine ⟨fun _ => ?_, fun h => absurd h hc⟩
                | refine ⟨fun h => absurd hb h, fun _ => ?_⟩
                | refine ih (i + 1) ix (mt + 1) (if lg < mt + 1 then mt + 1 else lg) true _ _ _ _ _ _ hdr (by omega) (by omega) (by split <;> omega) (by omega) hpw rfl (by exact nI_1 mt) ?_ rfl (by exact nI_1 i)
                | refine zs k_Tp_readWord rfl ?_
                | refine ⟨Nat.zero_lt_one, rfl, ?_⟩
                | refine ⟨rfl, ?_⟩
                | refine ⟨⟨Nat.zero_lt_one, rfl⟩, Nat.le_of_ble_eq_true rfl, ?_⟩
                | refine ⟨Nat.le_of_ble_eq_true rfl, Nat.le_of_ble_eq_true rfl, ?_⟩
                | refine ⟨(by first | exact Nat.zero_lt_one | assumption | omega), (by first | assumption | exact vp_in_nI (by omega) (by omega) | (unfold vp_in; decide)), ?_⟩
                | refine ⟨(by first | exact Nat.zero_lt_one | assumption | omega), rfl, ?_⟩
                | refine ⟨⟨(by first | exact Nat.zero_lt_one | assumption | omega), rfl⟩, Nat.le_of_ble_eq_true rfl, ?_⟩
                | refine ⟨(by first | exact Nat.zero_lt_one | assumption | omega), ?_⟩
                | refine ⟨Or.inl rfl, ?_⟩
                | refine ⟨Or.inr (Or.inl rfl), ?_⟩
                | refine ⟨Or.inr (Or.inr rfl), ?_⟩
                | refine ⟨Or.inr ⟨rfl, (by first | exact Or.inl rfl | exact Or.inr rfl | assumption)⟩, ?_⟩
                | refine ⟨fun h => absurd h (by decide), fun _ => ?_⟩
                | refine ⟨fun _ => ?_, fun h => absurd h (by decide)⟩
                | refine ⟨fun h => ?_, fun h => ?_⟩
                | fail)
              rw [nI_1]
              by_cases hlm : lg < mt + 1
              · rw [if_pos hlm, if_pos (nI_lt hlm (by omega))]
              · rw [if_neg hlm, if_neg (nI_nlt (by omega) (by omega))]
            · rw [if_neg (fun h => hb h.2)] at hpw
              refine zs k_Tp_readWord rfl ?_
              repeat' (first
                | refine ⟨⟨rfl, hk⟩, Nat.le_of_ble_eq_true rfl, ?_⟩
                | refine c_Jstr_length hk ?_
                | (refine c_Jstr_charAt (j := i) hk hlt rfl ?_; rw [hch])
                | refine c_Tp_byteAt (j := at_ + mt) hn h200 (by omega) hat2 ?_
                | refine br_f hn1 ?_
                | refine br_f hn2 ?_
                | refine ⟨fun _ => ?_, fun h => absurd h hc⟩
                | refine ⟨fun _ => ?_, fun h => absurd h hb⟩
                | refine ih (i + 1) ix mt lg false _ _ _ _ _ _ hdr (by omega) (by omega) (by omega) (by omega) hpw rfl rfl rfl rfl (by exact nI_1 i)
                | refine zs k_Tp_readWord rfl ?_
                | refine ⟨Nat.zero_lt_one, rfl, ?_⟩
                | refine ⟨rfl, ?_⟩
                | refine ⟨⟨Nat.zero_lt_one, rfl⟩, Nat.le_of_ble_eq_true rfl, ?_⟩
                | refine ⟨Nat.le_of_ble_eq_true rfl, Nat.le_of_ble_eq_true rfl, ?_⟩
                | refine ⟨(by first | exact Nat.zero_lt_one | assumption | omega), (by first | assumption | exact vp_in_nI (by omega) (by omega) | (unfold vp_in; decide)), ?_⟩
                | refine ⟨(by first | exact Nat.zero_lt_one | assumption | omega), rfl, ?_⟩
                | refine ⟨⟨(by first | exact Nat.zero_lt_one | assumption | omega), rfl⟩, Nat.le_of_ble_eq_true rfl, ?_⟩
                | refine ⟨(by first | exact Nat.zero_lt_one | assumption | omega), ?_⟩
                | refine ⟨Or.inl rfl, ?_⟩
                | refine ⟨Or.inr (Or.inl rfl), ?_⟩
                | refine ⟨Or.inr (Or.inr rfl), ?_⟩
                | refine ⟨Or.inr ⟨rfl, (by first | exact Or.inl rfl | exact Or.inr rfl | assumption)⟩, ?_⟩
                | refine ⟨fun h => absurd h (by decide), fun _ => ?_⟩
                | refine ⟨fun _ => ?_, fun h => absurd h (by decide)⟩
                | refine ⟨fun h => ?_, fun h => ?_⟩
                | fail)
    repeat' (first
      | refine br_t hf ?_
      | refine L (zByt.getD k []) 0 0 0 0 true _ _ _ _ _ _ rfl (by omega) (by omega) (by omega) (by omega) hR rfl rfl rfl rfl rfl
      | refine zs k_Tp_readWord rfl ?_
      | refine ⟨Nat.zero_lt_one, rfl, ?_⟩
      | refine ⟨rfl, ?_⟩
      | refine ⟨⟨Nat.zero_lt_one, rfl⟩, Nat.le_of_ble_eq_true rfl, ?_⟩
      | refine ⟨Nat.le_of_ble_eq_true rfl, Nat.le_of_ble_eq_true rfl, ?_⟩
      | refine ⟨(by first | exact Nat.zero_lt_one | assumption | omega), (by first | assumption | exact vp_in_nI (by omega) (by omega) | (unfold vp_in; decide)), ?_⟩
      | refine ⟨(by first | exact Nat.zero_lt_one | assumption | omega), rfl, ?_⟩
      | refine ⟨⟨(by first | exact Nat.zero_lt_one | assumption | omega), rfl⟩, Nat.le_of_ble_eq_true rfl, ?_⟩
      | refine ⟨(by first | exact Nat.zero_lt_one | assumption | omega), ?_⟩
      | refine ⟨Or.inl rfl, ?_⟩
      | refine ⟨Or.inr (Or.inl rfl), ?_⟩
      | refine ⟨Or.inr (Or.inr rfl), ?_⟩
      | refine ⟨Or.inr ⟨rfl, (by first | exact Or.inl rfl | exact Or.inr rfl | assumption)⟩, ?_⟩
      | refine ⟨fun h => absurd h (by decide), fun _ => ?_⟩
      | refine ⟨fun _ => ?_, fun h => absurd h (by decide)⟩
      | refine ⟨fun h => ?_, fun h => ?_⟩
      | fail)
  · rw [if_neg hf, hid] at hK
    repeat' (first
      | refine br_f hf ?_
      | exact hK
      | refine zs k_Tp_readWord rfl ?_
      | refine ⟨Nat.zero_lt_one, rfl, ?_⟩
      | refine ⟨rfl, ?_⟩
      | refine ⟨⟨Nat.zero_lt_one, rfl⟩, Nat.le_of_ble_eq_true rfl, ?_⟩
      | refine ⟨Nat.le_of_ble_eq_true rfl, Nat.le_of_ble_eq_true rfl, ?_⟩
      | refine ⟨(by first | exact Nat.zero_lt_one | assumption | omega), (by first | assumption | exact vp_in_nI (by omega) (by omega) | (unfold vp_in; decide)), ?_⟩
      | refine ⟨(by first | exact Nat.zero_lt_one | assumption | omega), rfl, ?_⟩
      | refine ⟨⟨(by first | exact Nat.zero_lt_one | assumption | omega), rfl⟩, Nat.le_of_ble_eq_true rfl, ?_⟩
      | refine ⟨(by first | exact Nat.zero_lt_one | assumption | omega), ?_⟩
      | refine ⟨Or.inl rfl, ?_⟩
      | refine ⟨Or.inr (Or.inl rfl), ?_⟩
      | refine ⟨Or.inr (Or.inr rfl), ?_⟩
      | refine ⟨Or.inr ⟨rfl, (by first | exact Or.inl rfl | exact Or.inr rfl | assumption)⟩, ?_⟩
      | refine ⟨fun h => absurd h (by decide), fun _ => ?_⟩
      | refine ⟨fun _ => ?_, fun h => absurd h (by decide)⟩
      | refine ⟨fun h => ?_, fun h => ?_⟩
      | fail)
end
section
/-! TAPE: numbers -/
def pNumF (B : Nat → Int32) : Nat → Nat → Int32 → Nat × Int32
  | 0, at_, v => (at_, v)
  | f + 1, at_, v => if 48 ≤ B at_ ∧ B at_ ≤ 57 then pNumF B f (at_ + 1) (10 * v + B at_ - 48) else (at_, v)
def pRdN (a : Nat → Int32) (n at_ : Nat) (fl : Int32) : Int32 × Nat × Int32 :=
  if fl = -1 then (if (pNumF (pB a n) 8 at_ 0).1 = at_ then (0, at_, nI at_) else ((pNumF (pB a n) 8 at_ 0).2, (pNumF (pB a n) 8 at_ 0).1, -1)) else (0, at_, fl)
theorem pNumF_ge (B : Nat → Int32) : ∀ (f at_ : Nat) (v : Int32), at_ ≤ (pNumF B f at_ v).1 ∧ (pNumF B f at_ v).1 ≤ at_ + f
  | 0, at_, v => ⟨Nat.le_refl _, Nat.le_refl _⟩
  | f + 1, at_, v => by
    rw [pNumF]
    split
    · have := pNumF_ge B f (at_ + 1) (10 * v + B at_ - 48)
      omega
    · exact ⟨Nat.le_refl _, by show at_ ≤ _; omega⟩
theorem pNumF_0 (B : Nat → Int32) (f at_ : Nat) (v : Int32) (h : (pNumF B f at_ v).1 = at_) : (pNumF B f at_ v).2 = v := by
  cases f with
  | zero => rfl
  | succ f =>
    rw [pNumF] at h ⊢
    split
    · rename_i hc
      rw [if_pos hc] at h
      have := (pNumF_ge B f (at_ + 1) (10 * v + B at_ - 48)).1
      omega
    · rfl
set_option maxHeartbeats 4000000 in
theorem c_Tp_readNumber {d n at_ : Nat} {μ : zMu} {K : Option zV → zMu → Prop} (hn : μ 2 0 0 = nI n) (h200 : n ≤ 200) (hat : μ 2 0 2 = nI at_) (ha : at_ ≤ 1000) (hK : K (some (zI (pRdN (μ 18 0) n at_ (μ 2 0 3)).1)) (cAt μ (pRdN (μ 18 0) n at_ (μ 2 0 3)).2)) : Ct (d + 1) m_Tp_readNumber [zR 2 0] μ K := by
  refine zmeet rfl (Nat.le_of_ble_eq_true rfl) (fun S => ?_)
  have hid := cAt_id hat
  unfold pRdN at hK
  by_cases hf : μ 2 0 3 = -1
  · rw [if_pos hf] at hK
    have hz2 := pNumF_0 (pB (μ 18 0) n) 8 at_ 0
    generalize hR : pNumF (pB (μ 18 0) n) 8 at_ 0 = Rv at hK hz2
    have L : ∀ (f dg a1 : Nat) (v xd : Int32) (μ1 : zMu), f + dg = 8 → a1 = at_ + dg → pNumF (pB (μ 18 0) n) f a1 v = Rv → xd = nI dg → μ1 = zu μ 2 0 2 (nI a1) → zG S (d + 1) m_Tp_readNumber K 4 [some (zR 2 0), some (zI v), some (zI xd)] [] μ1 := by
      intro f
      have hend : ∀ (dg a1 : Nat) (v : Int32), a1 = at_ + dg → (a1, v) = Rv → dg ≤ 8 → zG S (d + 1) m_Tp_readNumber K 65 [some (zR 2 0), some (zI v), some (zI (nI dg))] [] (zu μ 2 0 2 (nI a1)) := by
        intro dg a1 v ha1 hRv hdg
        subst hRv
        rcases Nat.eq_zero_or_pos dg with h0 | h0
        · subst h0
          have ha2 : a1 = at_ := by omega
          have hv0 : v = 0 := hz2 ha2
          subst hv0
          rw [if_pos ha2] at hK
          refine zs k_Tp_readNumber rfl ?_
          repeat' (first
            | refine ⟨fun h => absurd rfl h, fun _ => ?_⟩
            | refine c_Tp_fail ?_
            | refine zKe hK rfl ?_
            | refine zs k_Tp_readNumber rfl ?_
            | refine ⟨Nat.zero_lt_one, rfl, ?_⟩
            | refine ⟨rfl, ?_⟩
            | refine ⟨⟨Nat.zero_lt_one, rfl⟩, Nat.le_of_ble_eq_true rfl, ?_⟩
            | refine ⟨Nat.le_of_ble_eq_true rfl, Nat.le_of_ble_eq_true rfl, ?_⟩
            | refine ⟨(by first | exact Nat.zero_lt_one | assumption | omega), (by first | assumption | exact vp_in_nI (by omega) (by omega) | (unfold vp_in; decide)), ?_⟩
            | refine ⟨(by first | exact Nat.zero_lt_one | assumption | omega), rfl, ?_⟩
            | refine ⟨⟨(by first | exact Nat.zero_lt_one | assumption | omega), rfl⟩, Nat.le_of_ble_eq_true rfl, ?_⟩
            | refine ⟨(by first | exact Nat.zero_lt_one | assumption | omega), ?_⟩
            | refine ⟨Or.inl rfl, ?_⟩
            | refine ⟨Or.inr (Or.inl rfl), ?_⟩
            | refine ⟨Or.inr (Or.inr rfl), ?_⟩
            | refine ⟨Or.inr ⟨rfl, (by first | exact Or.inl rfl | exact Or.inr rfl | assumption)⟩, ?_⟩
            | refine ⟨fun h => absurd h (by decide), fun _ => ?_⟩
            | refine ⟨fun _ => ?_, fun h => absurd h (by decide)⟩
            | refine ⟨fun h => ?_, fun h => ?_⟩
            | fail)
          rw [show zu μ 2 0 2 (nI a1) 2 0 3 = μ 2 0 3 from rfl, if_pos hf, ha2]
          rfl
        · rw [if_neg (by omega)] at hK
          refine zs k_Tp_readNumber rfl ?_
          repeat' (first
            | refine ⟨fun _ => ?_, fun h => absurd h (nI_ne0 h0 (by omega))⟩
            | refine zKe hK rfl ?_
            | refine zs k_Tp_readNumber rfl ?_
            | refine ⟨Nat.zero_lt_one, rfl, ?_⟩
            | refine ⟨rfl, ?_⟩
            | refine ⟨⟨Nat.zero_lt_one, rfl⟩, Nat.le_of_ble_eq_true rfl, ?_⟩
            | refine ⟨Nat.le_of_ble_eq_true rfl, Nat.le_of_ble_eq_true rfl, ?_⟩
            | refine ⟨(by first | exact Nat.zero_lt_one | assumption | omega), (by first | assumption | exact vp_in_nI (by omega) (by omega) | (unfold vp_in; decide)), ?_⟩
            | refine ⟨(by first | exact Nat.zero_lt_one | assumption | omega), rfl, ?_⟩
            | refine ⟨⟨(by first | exact Nat.zero_lt_one | assumption | omega), rfl⟩, Nat.le_of_ble_eq_true rfl, ?_⟩
            | refine ⟨(by first | exact Nat.zero_lt_one | assumption | omega), ?_⟩
            | refine ⟨Or.inl rfl, ?_⟩
            | refine ⟨Or.inr (Or.inl rfl), ?_⟩
            | refine ⟨Or.inr (Or.inr rfl), ?_⟩
            | refine ⟨Or.inr ⟨rfl, (by first | exact Or.inl rfl | exact Or.inr rfl | assumption)⟩, ?_⟩
            | refine ⟨fun h => absurd h (by decide), fun _ => ?_⟩
            | refine ⟨fun _ => ?_, fun h => absurd h (by decide)⟩
            | refine ⟨fun h => ?_, fun h => ?_⟩
            | fail)
          funext f a b
          simp only [cAt, zu]
          grind
      induction f with
      | zero =>
        intro dg a1 v xd μ1 hfd ha1 hp hx hm
        subst hx hm
        obtain rfl : dg = 8 := by omega
        refine zs k_Tp_readNumber rfl ?_
        repeat' (first
          | refine hend 8 a1 v ha1 hp (by omega)
          | refine ⟨fun h => absurd hf h, fun _ => ?_⟩
          | refine br_t (by decide) ?_
          | refine zs k_Tp_readNumber rfl ?_
          | refine ⟨Nat.zero_lt_one, rfl, ?_⟩
          | refine ⟨rfl, ?_⟩
          | refine ⟨⟨Nat.zero_lt_one, rfl⟩, Nat.le_of_ble_eq_true rfl, ?_⟩
          | refine ⟨Nat.le_of_ble_eq_true rfl, Nat.le_of_ble_eq_true rfl, ?_⟩
          | refine ⟨(by first | exact Nat.zero_lt_one | assumption | omega), (by first | assumption | exact vp_in_nI (by omega) (by omega) | (unfold vp_in; decide)), ?_⟩
          | refine ⟨(by first | exact Nat.zero_lt_one | assumption | omega), rfl, ?_⟩
          | refine ⟨⟨(by first | exact Nat.zero_lt_one | assumption | omega), rfl⟩, Nat.le_of_ble_eq_true rfl, ?_⟩
          | refine ⟨(by first | exact Nat.zero_lt_one | assumption | omega), ?_⟩
          | refine ⟨Or.inl rfl, ?_⟩
          | refine ⟨Or.inr (Or.inl rfl), ?_⟩
          | refine ⟨Or.inr (Or.inr rfl), ?_⟩
          | refine ⟨Or.inr ⟨rfl, (by first | exact Or.inl rfl | exact Or.inr rfl | assumption)⟩, ?_⟩
          | refine ⟨fun h => absurd h (by decide), fun _ => ?_⟩
          | refine ⟨fun _ => ?_, fun h => absurd h (by decide)⟩
          | refine ⟨fun h => ?_, fun h => ?_⟩
          | fail)
      | succ f ih =>
        intro dg a1 v xd μ1 hfd ha1 hp hx hm
        subst hx hm
        have h8 : ¬ (8 : Int32) ≤ nI dg := nI_ge (b := 8) (by omega) (by omega)
        have ha3 : zu μ 2 0 2 (nI a1) 2 0 2 = nI a1 := rfl
        rw [pNumF] at hp
        by_cases hdg : 48 ≤ pB (μ 18 0) n a1 ∧ pB (μ 18 0) n a1 ≤ 57
        · rw [if_pos hdg] at hp
          refine zs k_Tp_readNumber rfl ?_
          repeat' (first
            | refine ⟨fun h => absurd hf h, fun _ => ?_⟩
            | refine br_f h8 ?_
            | refine c_Tp_byteAt (j := a1) hn h200 (by omega) ha3 ?_
            | refine c_Tp_isDigit (fun _ => ?_) (fun h => absurd hdg h)
            | refine ih (dg + 1) (a1 + 1) _ _ _ (by omega) (by omega) hp (by exact nI_1 dg) ?_
            | refine zs k_Tp_readNumber rfl ?_
            | refine ⟨Nat.zero_lt_one, rfl, ?_⟩
            | refine ⟨rfl, ?_⟩
            | refine ⟨⟨Nat.zero_lt_one, rfl⟩, Nat.le_of_ble_eq_true rfl, ?_⟩
            | refine ⟨Nat.le_of_ble_eq_true rfl, Nat.le_of_ble_eq_true rfl, ?_⟩
            | refine ⟨(by first | exact Nat.zero_lt_one | assumption | omega), (by first | assumption | exact vp_in_nI (by omega) (by omega) | (unfold vp_in; decide)), ?_⟩
            | refine ⟨(by first | exact Nat.zero_lt_one | assumption | omega), rfl, ?_⟩
            | refine ⟨⟨(by first | exact Nat.zero_lt_one | assumption | omega), rfl⟩, Nat.le_of_ble_eq_true rfl, ?_⟩
            | refine ⟨(by first | exact Nat.zero_lt_one | assumption | omega), ?_⟩
            | refine ⟨Or.inl rfl, ?_⟩
            | refine ⟨Or.inr (Or.inl rfl), ?_⟩
            | refine ⟨Or.inr (Or.inr rfl), ?_⟩
            | refine ⟨Or.inr ⟨rfl, (by first | exact Or.inl rfl | exact Or.inr rfl | assumption)⟩, ?_⟩
            | refine ⟨fun h => absurd h (by decide), fun _ => ?_⟩
            | refine ⟨fun _ => ?_, fun h => absurd h (by decide)⟩
            | refine ⟨fun h => ?_, fun h => ?_⟩
            | fail)
          rw [ha3, nI_1]
          funext f a b
          simp only [zu]
          grind
        · rw [if_neg hdg] at hp
          refine zs k_Tp_readNumber rfl ?_
          repeat' (first
            | refine hend dg a1 v ha1 hp (by omega)
            | refine ⟨fun h => absurd hf h, fun _ => ?_⟩
            | refine br_f h8 ?_
            | refine c_Tp_byteAt (j := a1) hn h200 (by omega) ha3 ?_
            | refine c_Tp_isDigit (fun h => absurd h hdg) (fun _ => ?_)
            | refine zs k_Tp_readNumber rfl ?_
            | refine ⟨Nat.zero_lt_one, rfl, ?_⟩
            | refine ⟨rfl, ?_⟩
            | refine ⟨⟨Nat.zero_lt_one, rfl⟩, Nat.le_of_ble_eq_true rfl, ?_⟩
            | refine ⟨Nat.le_of_ble_eq_true rfl, Nat.le_of_ble_eq_true rfl, ?_⟩
            | refine ⟨(by first | exact Nat.zero_lt_one | assumption | omega), (by first | assumption | exact vp_in_nI (by omega) (by omega) | (unfold vp_in; decide)), ?_⟩
            | refine ⟨(by first | exact Nat.zero_lt_one | assumption | omega), rfl, ?_⟩
            | refine ⟨⟨(by first | exact Nat.zero_lt_one | assumption | omega), rfl⟩, Nat.le_of_ble_eq_true rfl, ?_⟩
            | refine ⟨(by first | exact Nat.zero_lt_one | assumption | omega), ?_⟩
            | refine ⟨Or.inl rfl, ?_⟩
            | refine ⟨Or.inr (Or.inl rfl), ?_⟩
            | refine ⟨Or.inr (Or.inr rfl), ?_⟩
            | refine ⟨Or.inr ⟨rfl, (by first | exact Or.inl rfl | exact Or.inr rfl | assumption)⟩, ?_⟩
            | refine ⟨fun h => absurd h (by decide), fun _ => ?_⟩
            | refine ⟨fun _ => ?_, fun h => absurd h (by decide)⟩
            | refine ⟨fun h => ?_, fun h => ?_⟩
            | fail)
    repeat' (first
      | refine L 8 0 at_ 0 _ _ (by omega) (by omega) hR rfl ?_
      | refine zs k_Tp_readNumber rfl ?_
      | refine ⟨Nat.zero_lt_one, rfl, ?_⟩
      | refine ⟨rfl, ?_⟩
      | refine ⟨⟨Nat.zero_lt_one, rfl⟩, Nat.le_of_ble_eq_true rfl, ?_⟩
      | refine ⟨Nat.le_of_ble_eq_true rfl, Nat.le_of_ble_eq_true rfl, ?_⟩
      | refine ⟨(by first | exact Nat.zero_lt_one | assumption | omega), (by first | assumption | exact vp_in_nI (by omega) (by omega) | (unfold vp_in; decide)), ?_⟩
      | refine ⟨(by first | exact Nat.zero_lt_one | assumption | omega), rfl, ?_⟩
      | refine ⟨⟨(by first | exact Nat.zero_lt_one | assumption | omega), rfl⟩, Nat.le_of_ble_eq_true rfl, ?_⟩
      | refine ⟨(by first | exact Nat.zero_lt_one | assumption | omega), ?_⟩
      | refine ⟨Or.inl rfl, ?_⟩
      | refine ⟨Or.inr (Or.inl rfl), ?_⟩
      | refine ⟨Or.inr (Or.inr rfl), ?_⟩
      | refine ⟨Or.inr ⟨rfl, (by first | exact Or.inl rfl | exact Or.inr rfl | assumption)⟩, ?_⟩
      | refine ⟨fun h => absurd h (by decide), fun _ => ?_⟩
      | refine ⟨fun _ => ?_, fun h => absurd h (by decide)⟩
      | refine ⟨fun h => ?_, fun h => ?_⟩
      | fail)
    funext f a b
    simp only [zu]
    grind
  · rw [if_neg hf, hid] at hK
    repeat' (first
      | refine ⟨fun _ => ?_, fun h => absurd h hf⟩
      | refine c_Tp_fail ?_
      | refine zKe hK rfl ?_
      | refine zs k_Tp_readNumber rfl ?_
      | refine ⟨Nat.zero_lt_one, rfl, ?_⟩
      | refine ⟨rfl, ?_⟩
      | refine ⟨⟨Nat.zero_lt_one, rfl⟩, Nat.le_of_ble_eq_true rfl, ?_⟩
      | refine ⟨Nat.le_of_ble_eq_true rfl, Nat.le_of_ble_eq_true rfl, ?_⟩
      | refine ⟨(by first | exact Nat.zero_lt_one | assumption | omega), (by first | assumption | exact vp_in_nI (by omega) (by omega) | (unfold vp_in; decide)), ?_⟩
      | refine ⟨(by first | exact Nat.zero_lt_one | assumption | omega), rfl, ?_⟩
      | refine ⟨⟨(by first | exact Nat.zero_lt_one | assumption | omega), rfl⟩, Nat.le_of_ble_eq_true rfl, ?_⟩
      | refine ⟨(by first | exact Nat.zero_lt_one | assumption | omega), ?_⟩
      | refine ⟨Or.inl rfl, ?_⟩
      | refine ⟨Or.inr (Or.inl rfl), ?_⟩
      | refine ⟨Or.inr (Or.inr rfl), ?_⟩
      | refine ⟨Or.inr ⟨rfl, (by first | exact Or.inl rfl | exact Or.inr rfl | assumption)⟩, ?_⟩
      | refine ⟨fun h => absurd h (by decide), fun _ => ?_⟩
      | refine ⟨fun _ => ?_, fun h => absurd h (by decide)⟩
      | refine ⟨fun h => ?_, fun h => ?_⟩
      | fail)
    rw [if_neg hf]
end
section
/-! TAPE: tests and heads, over place and fault as one -/
abbrev zQ : Type := Nat × Int32
def qW (a : Nat → Int32) (n : Nat) (q : zQ) (k : Nat) : Int32 × zQ := pRdW a n q.1 q.2 (zByt.getD k [])
def qB (a : Nat → Int32) (n : Nat) (q : zQ) : zQ := pBlank a n q.1 q.2
def qN (a : Nat → Int32) (n : Nat) (q : zQ) : Int32 × zQ := pRdN a n q.1 q.2
-- places stay on the tape
theorem pB_lt {a : Nat → Int32} {n j : Nat} (h : ¬ pB a n j = -1) : j < n := by
  unfold pB at h
  split at h
  · assumption
  · exact absurd rfl h
theorem qB_le {a : Nat → Int32} {n : Nat} {q : zQ} (h : q.1 ≤ n) : (qB a n q).1 ≤ n := by
  unfold qB pBlank
  split
  · split
    · rename_i h32
      have := pB_lt (a := a) (n := n) (j := q.1) (by rw [h32]; decide)
      exact this
    · exact h
  · exact h
theorem pWord_le {b : Nat → Int32} : ∀ (tx : List Int32) (ix mt lg : Nat) (ft : Bool) (r : Nat × Nat), (∀ c ∈ tx, ¬ c = -1) → (∀ j, j < mt → ¬ b j = -1) → pWord b tx ix mt lg ft = .inl r → ∀ j, j < r.2 → ¬ b j = -1
  | [], ix, mt, lg, ft, r, hc, hm, h => by
    unfold pWord at h
    split at h
    · cases h
      exact hm
    · cases h
  | c :: t, ix, mt, lg, ft, r, hc, hm, h => by
    unfold pWord at h
    split at h
    · split at h
      · cases h
        exact hm
      · exact pWord_le t _ _ _ _ r (fun c' h' => hc c' (List.mem_cons_of_mem _ h')) (fun j hj => absurd hj (by omega)) h
    · split at h
      · rename_i hb
        refine pWord_le t _ _ _ _ r (fun c' h' => hc c' (List.mem_cons_of_mem _ h')) (lt_s hm ?_) h
        rw [hb.2]
        exact hc c List.mem_cons_self
      · exact pWord_le t _ _ _ _ r (fun c' h' => hc c' (List.mem_cons_of_mem _ h')) hm h
theorem zByt_pos : ∀ k, k < 13 → ∀ c ∈ zByt.getD k [], ¬ c = -1 := by decide +kernel
theorem qW_le {a : Nat → Int32} {n k : Nat} {q : zQ} (hk : k < 13) (h : q.1 ≤ n) : (qW a n q k).2.1 ≤ n := by
  unfold qW pRdW
  split
  · split
    · rename_i r hr
      have h1 := pWord_le _ 0 0 0 true r (zByt_pos k hk) (fun j hj => absurd hj (by omega)) hr
      show q.1 + r.2 ≤ n
      rcases Nat.eq_zero_or_pos r.2 with h0 | h0
      · omega
      · have := pB_lt (h1 (r.2 - 1) (by omega))
        omega
    · exact h
  · exact h
theorem pNumF_le {a : Nat → Int32} {n : Nat} : ∀ (f at_ : Nat) (v : Int32), at_ ≤ n → (pNumF (pB a n) f at_ v).1 ≤ n
  | 0, at_, v, h => h
  | f + 1, at_, v, h => by
    rw [pNumF]
    split
    · rename_i hd
      have := pB_lt (a := a) (n := n) (j := at_) (by intro e; rw [e] at hd; exact absurd hd.1 (by decide))
      exact pNumF_le f (at_ + 1) _ this
    · exact h
theorem qN_le {a : Nat → Int32} {n : Nat} {q : zQ} (h : q.1 ≤ n) : (qN a n q).2.1 ≤ n := by
  unfold qN pRdN
  split
  · split
    · exact h
    · exact pNumF_le 8 q.1 0 h
  · exact h
theorem r_word {d n k : Nat} {μ : zMu} {a : Nat → Int32} {q : zQ} {K : Option zV → zMu → Prop} (hk : k < 13) (hn : μ 2 0 0 = nI n) (h200 : n ≤ 200) (hA : μ 18 0 = a) (h2 : μ 2 0 2 = nI q.1) (h3 : μ 2 0 3 = q.2) (hq : q.1 ≤ n) (hK : ∀ (v : Int32) (q' : zQ), qW a n q k = (v, q') → q'.1 ≤ n → K (some (zI v)) (cAt μ q')) : Ct (d + 4) m_Tp_readWord [zR 2 0, zR 200 k] μ K := by
  subst hA
  refine c_Tp_readWord hk hn h200 h2 (by omega) ?_
  rw [h3]
  exact hK _ _ rfl (qW_le hk hq)
theorem r_blank {d n : Nat} {μ : zMu} {a : Nat → Int32} {q : zQ} {K : Option zV → zMu → Prop} (hn : μ 2 0 0 = nI n) (h200 : n ≤ 200) (hA : μ 18 0 = a) (h2 : μ 2 0 2 = nI q.1) (h3 : μ 2 0 3 = q.2) (hq : q.1 ≤ n) (hK : ∀ q' : zQ, qB a n q = q' → q'.1 ≤ n → K none (cAt μ q')) : Ct (d + 1) m_Tp_readBlank [zR 2 0] μ K := by
  subst hA
  refine c_Tp_readBlank hn h200 h2 (by omega) ?_
  rw [h3]
  exact hK _ rfl (qB_le hq)
theorem r_num {d n : Nat} {μ : zMu} {a : Nat → Int32} {q : zQ} {K : Option zV → zMu → Prop} (hn : μ 2 0 0 = nI n) (h200 : n ≤ 200) (hA : μ 18 0 = a) (h2 : μ 2 0 2 = nI q.1) (h3 : μ 2 0 3 = q.2) (hq : q.1 ≤ n) (hK : ∀ (v : Int32) (q' : zQ), qN a n q = (v, q') → q'.1 ≤ n → K (some (zI v)) (cAt μ q')) : Ct (d + 1) m_Tp_readNumber [zR 2 0] μ K := by
  subst hA
  refine c_Tp_readNumber hn h200 h2 (by omega) ?_
  rw [h3]
  exact hK _ _ rfl (qN_le hq)
/-- a test is read: not, second, field, sign, number; place and fault -/
def qT0R (a : Nat → Int32) (n : Nat) (q : zQ) (neg w : Int32) (q' : zQ) : Prop := ∃ v1 q1, qW a n q 5 = (v1, q1) ∧ ((v1 = 2 ∧ neg = 1 ∧ qW a n (qB a n q1) 6 = (w, q')) ∨ (¬ v1 = 2 ∧ neg = 0 ∧ w = v1 ∧ q' = q1))
def qTR (a : Nat → Int32) (n : Nat) (q : zQ) (t : rT) (q' : zQ) : Prop := ∃ w q3 v4 q4 q5 q6, qT0R a n q t.1 w q3 ∧ t.2.1 = (if w = 1 then 1 else 0) ∧ qW a n q3 7 = (v4, q4) ∧ qW a n q4 8 = (t.2.2.1, q5) ∧ qW a n q5 9 = (t.2.2.2.1, q6) ∧ qN a n q6 = (t.2.2.2.2, q')
theorem zGmu {S : Nat × (Nat → Int32)} {d : Nat} {M : zMth} {K : Option zV → zMu → Prop} {pc : Nat} {ls : List (Option zV)} {st : List zV} {μ μ' : zMu} (h : zG S d M K pc ls st μ) (e : μ' = μ) : zG S d M K pc ls st μ' := by
  rw [e]
  exact h
/-- rule r has test j -/
def cTe (μ : zMu) (r j : Nat) (t : rT) : zMu := zu (zu (zu (zu (zu (zu μ 22 r j t.1) 23 r j t.2.1) 24 r j t.2.2.1) 25 r j t.2.2.2.1) 26 r j t.2.2.2.2) 8 r 4 (nI (j + 1))
set_option maxHeartbeats 4000000 in
theorem c_Tp_readTest {d n r j : Nat} {μ : zMu} {a : Nat → Int32} {q : zQ} {x : Int32} {K : Option zV → zMu → Prop} (hr : r < 16) (hj : j < 4) (hx : x = nI j) (hn : μ 2 0 0 = nI n) (h200 : n ≤ 200) (hA : μ 18 0 = a) (h2 : μ 2 0 2 = nI q.1) (h3 : μ 2 0 3 = q.2) (hq : q.1 ≤ n) (hK : ∀ (t : rT) (q' : zQ), qTR a n q t q' → q'.1 ≤ n → K none (cAt (cTe μ r j t) q')) : Ct (d + 5) m_Tp_readTest [zR 2 0, zR 8 r, zI x] μ K := by
  subst hx
  refine zmeet rfl (Nat.le_of_ble_eq_true rfl) (fun S => ?_)
  have hc : (nI j).toNatClampNeg = j := nI_clamp (by omega)
  have tail : ∀ (w neg : Int32) (q3 : zQ), qT0R a n q neg w q3 → q3.1 ≤ n → zG S (d + 5) m_Tp_readTest K 43 [some (zR 2 0), some (zR 8 r), some (zI (nI j)), some (zI w)] [] (cAt (zu μ 22 r j neg) q3) := by
    intro w neg q3 h0 hq3
    have go : ∀ b : Int32, b = (if w = 1 then 1 else 0) → zG S (d + 5) m_Tp_readTest K 59 [some (zR 2 0), some (zR 8 r), some (zI (nI j)), some (zI w)] [] (zu (cAt (zu μ 22 r j neg) q3) 23 r j b) := by
      intro b hb
      repeat' (first
        | refine ⟨⟨rfl, (by omega)⟩, Nat.le_of_ble_eq_true rfl, ?_⟩
        | refine r_num (a := a) (n := n) (q := q6) hn h200 hA rfl rfl hq6 (fun v7 q7 e7 hq7 => ?_)
        | refine r_word (a := a) (n := n) (q := q5) (by omega) hn h200 hA rfl rfl hq5 (fun v6 q6 e6 hq6 => ?_)
        | refine r_word (a := a) (n := n) (q := q4) (by omega) hn h200 hA rfl rfl hq4 (fun v5 q5 e5 hq5 => ?_)
        | refine r_word (a := a) (n := n) (q := q3) (by omega) hn h200 hA rfl rfl hq3 (fun v4 q4 e4 hq4 => ?_)
        | refine zKn (hK (neg, b, v5, v6, v7) q7 ⟨w, q3, v4, q4, q5, q6, h0, hb, e4, e5, e6, e7⟩ hq7) ?_
        | refine zs k_Tp_readTest rfl ?_
        | refine ⟨Nat.zero_lt_one, rfl, ?_⟩
        | refine ⟨rfl, ?_⟩
        | refine ⟨⟨Nat.zero_lt_one, rfl⟩, Nat.le_of_ble_eq_true rfl, ?_⟩
        | refine ⟨Nat.le_of_ble_eq_true rfl, Nat.le_of_ble_eq_true rfl, ?_⟩
        | refine ⟨(by first | exact Nat.zero_lt_one | assumption | omega), (by first | assumption | exact vp_in_nI (by omega) (by omega) | (unfold vp_in; decide)), ?_⟩
        | refine ⟨(by first | exact Nat.zero_lt_one | assumption | omega), rfl, ?_⟩
        | refine ⟨⟨(by first | exact Nat.zero_lt_one | assumption | omega), rfl⟩, Nat.le_of_ble_eq_true rfl, ?_⟩
        | refine ⟨(by first | exact Nat.zero_lt_one | assumption | omega), ?_⟩
        | refine ⟨Or.inl rfl, ?_⟩
        | refine ⟨Or.inr (Or.inl rfl), ?_⟩
        | refine ⟨Or.inr (Or.inr rfl), ?_⟩
        | refine ⟨Or.inr ⟨rfl, (by first | exact Or.inl rfl | exact Or.inr rfl | assumption)⟩, ?_⟩
        | refine ⟨fun h => absurd h (by decide), fun _ => ?_⟩
        | refine ⟨fun _ => ?_, fun h => absurd h (by decide)⟩
        | refine ⟨fun h => ?_, fun h => ?_⟩
        | fail)
      rw [hc, nI_1]
      funext f i k
      simp only [cAt, cTe, zu]
      grind
    refine zs k_Tp_readTest rfl ?_
    repeat' (first
      | (rw [hc]; refine go _ ?_)
      | refine zs k_Tp_readTest rfl ?_
      | refine ⟨Nat.zero_lt_one, rfl, ?_⟩
      | refine ⟨rfl, ?_⟩
      | refine ⟨⟨Nat.zero_lt_one, rfl⟩, Nat.le_of_ble_eq_true rfl, ?_⟩
      | refine ⟨Nat.le_of_ble_eq_true rfl, Nat.le_of_ble_eq_true rfl, ?_⟩
      | refine ⟨(by first | exact Nat.zero_lt_one | assumption | omega), (by first | assumption | exact vp_in_nI (by omega) (by omega) | (unfold vp_in; decide)), ?_⟩
      | refine ⟨(by first | exact Nat.zero_lt_one | assumption | omega), rfl, ?_⟩
      | refine ⟨⟨(by first | exact Nat.zero_lt_one | assumption | omega), rfl⟩, Nat.le_of_ble_eq_true rfl, ?_⟩
      | refine ⟨(by first | exact Nat.zero_lt_one | assumption | omega), ?_⟩
      | refine ⟨Or.inl rfl, ?_⟩
      | refine ⟨Or.inr (Or.inl rfl), ?_⟩
      | refine ⟨Or.inr (Or.inr rfl), ?_⟩
      | refine ⟨Or.inr ⟨rfl, (by first | exact Or.inl rfl | exact Or.inr rfl | assumption)⟩, ?_⟩
      | refine ⟨fun h => absurd h (by decide), fun _ => ?_⟩
      | refine ⟨fun _ => ?_, fun h => absurd h (by decide)⟩
      | refine ⟨fun h => ?_, fun h => ?_⟩
      | fail)
    · rw [if_neg (by assumption)]; rfl
    · rw [if_pos (by assumption)]; rfl
  have n0 : vp_nar .boolean 0 = 0 := rfl
  have n1 : vp_nar .boolean 1 = 1 := rfl
  repeat' (first
    | refine zGmu (tail v3 1 q3 ⟨v1, q1, e1, Or.inl ⟨(by assumption), rfl, by rw [e2]; exact e3⟩⟩ hq3) ?_
    | refine zGmu (tail v1 0 q1 ⟨v1, q1, e1, Or.inr ⟨(by assumption), rfl, rfl, rfl⟩⟩ hq1) ?_
    | refine ⟨⟨rfl, (by omega)⟩, Nat.le_of_ble_eq_true rfl, ?_⟩
    | refine ⟨fun h => absurd (zu_eq.symm.trans h) (by decide), fun _ => ?_⟩
    | refine ⟨fun _ => ?_, fun h => absurd zu_eq h⟩
    | refine r_word (a := a) (n := n) (q := q2) (by omega) hn h200 hA rfl rfl hq2 (fun v3 q3 e3 hq3 => ?_)
    | refine r_blank (a := a) (n := n) (q := q1) hn h200 hA rfl rfl hq1 (fun q2 e2 hq2 => ?_)
    | refine r_word (a := a) (n := n) (q := q) (by omega) hn h200 hA h2 h3 hq (fun v1 q1 e1 hq1 => ?_)
    | refine zs k_Tp_readTest rfl ?_
    | refine ⟨Nat.zero_lt_one, rfl, ?_⟩
    | refine ⟨rfl, ?_⟩
    | refine ⟨⟨Nat.zero_lt_one, rfl⟩, Nat.le_of_ble_eq_true rfl, ?_⟩
    | refine ⟨Nat.le_of_ble_eq_true rfl, Nat.le_of_ble_eq_true rfl, ?_⟩
    | refine ⟨(by first | exact Nat.zero_lt_one | assumption | omega), (by first | assumption | exact vp_in_nI (by omega) (by omega) | (unfold vp_in; decide)), ?_⟩
    | refine ⟨(by first | exact Nat.zero_lt_one | assumption | omega), rfl, ?_⟩
    | refine ⟨⟨(by first | exact Nat.zero_lt_one | assumption | omega), rfl⟩, Nat.le_of_ble_eq_true rfl, ?_⟩
    | refine ⟨(by first | exact Nat.zero_lt_one | assumption | omega), ?_⟩
    | refine ⟨Or.inl rfl, ?_⟩
    | refine ⟨Or.inr (Or.inl rfl), ?_⟩
    | refine ⟨Or.inr (Or.inr rfl), ?_⟩
    | refine ⟨Or.inr ⟨rfl, (by first | exact Or.inl rfl | exact Or.inr rfl | assumption)⟩, ?_⟩
    | refine ⟨fun h => absurd h (by decide), fun _ => ?_⟩
    | refine ⟨fun _ => ?_, fun h => absurd h (by decide)⟩
    | refine ⟨fun h => ?_, fun h => ?_⟩
    | fail)
  all_goals
    rw [hc]
    funext f i k
    simp only [cAt, zu, n0, n1]
    grind
end
section
/-! TAPE: a rule's head, its tests, the whole -/
def qHR (a : Nat → Int32) (n : Nat) (q : zQ) (oc ky dn : Int32) (q' : zQ) : Prop := ∃ v1 q1 q2 v3 q3 q4 q5 q6 v7, qW a n q 0 = (v1, q1) ∧ qB a n q1 = q2 ∧ qW a n q2 1 = (v3, q3) ∧ oc = v3 - 1 ∧ qB a n q3 = q4 ∧ qW a n q4 2 = (ky, q5) ∧ qB a n q5 = q6 ∧ qW a n q6 3 = (v7, q') ∧ dn = (if v7 = 1 then 1 else 0)
def cHd (μ : zMu) (r : Nat) (oc ky dn : Int32) : zMu := zu (zu (zu μ 8 r 0 oc) 8 r 1 ky) 8 r 2 dn
set_option maxHeartbeats 4000000 in
theorem c_Tp_readHead {d n r : Nat} {μ : zMu} {a : Nat → Int32} {q : zQ} {K : Option zV → zMu → Prop} (hr : r < 16) (hn : μ 2 0 0 = nI n) (h200 : n ≤ 200) (hA : μ 18 0 = a) (h2 : μ 2 0 2 = nI q.1) (h3 : μ 2 0 3 = q.2) (hq : q.1 ≤ n) (hK : ∀ (oc ky dn : Int32) (q' : zQ), qHR a n q oc ky dn q' → q'.1 ≤ n → K none (cAt (cHd μ r oc ky dn) q')) : Ct (d + 5) m_Tp_readHead [zR 2 0, zR 8 r] μ K := by
  refine zmeet rfl (Nat.le_of_ble_eq_true rfl) (fun S => ?_)
  repeat' (first
    | refine ⟨⟨rfl, (by omega)⟩, Nat.le_of_ble_eq_true rfl, ?_⟩
    | refine zKn (hK (v3 - 1) v5 0 q7 ⟨v1, q1, q2, v3, q3, q4, q5, q6, v7, e1, e2, e3, rfl, e4, e5, e6, e7, by rw [if_neg (by assumption)]⟩ hq7) ?_
    | refine zKn (hK (v3 - 1) v5 1 q7 ⟨v1, q1, q2, v3, q3, q4, q5, q6, v7, e1, e2, e3, rfl, e4, e5, e6, e7, by rw [if_pos (by assumption)]⟩ hq7) ?_
    | refine r_word (a := a) (n := n) (q := q6) (by omega) hn h200 hA rfl rfl hq6 (fun v7 q7 e7 hq7 => ?_)
    | refine r_blank (a := a) (n := n) (q := q5) hn h200 hA rfl rfl hq5 (fun q6 e6 hq6 => ?_)
    | refine r_word (a := a) (n := n) (q := q4) (by omega) hn h200 hA rfl rfl hq4 (fun v5 q5 e5 hq5 => ?_)
    | refine r_blank (a := a) (n := n) (q := q3) hn h200 hA rfl rfl hq3 (fun q4 e4 hq4 => ?_)
    | refine r_word (a := a) (n := n) (q := q2) (by omega) hn h200 hA rfl rfl hq2 (fun v3 q3 e3 hq3 => ?_)
    | refine r_blank (a := a) (n := n) (q := q1) hn h200 hA rfl rfl hq1 (fun q2 e2 hq2 => ?_)
    | refine r_word (a := a) (n := n) (q := q) (by omega) hn h200 hA h2 h3 hq (fun v1 q1 e1 hq1 => ?_)
    | refine zs k_Tp_readHead rfl ?_
    | refine ⟨Nat.zero_lt_one, rfl, ?_⟩
    | refine ⟨rfl, ?_⟩
    | refine ⟨⟨Nat.zero_lt_one, rfl⟩, Nat.le_of_ble_eq_true rfl, ?_⟩
    | refine ⟨Nat.le_of_ble_eq_true rfl, Nat.le_of_ble_eq_true rfl, ?_⟩
    | refine ⟨(by first | exact Nat.zero_lt_one | assumption | omega), (by first | assumption | exact vp_in_nI (by omega) (by omega) | (unfold vp_in; decide)), ?_⟩
    | refine ⟨(by first | exact Nat.zero_lt_one | assumption | omega), rfl, ?_⟩
    | refine ⟨⟨(by first | exact Nat.zero_lt_one | assumption | omega), rfl⟩, Nat.le_of_ble_eq_true rfl, ?_⟩
    | refine ⟨(by first | exact Nat.zero_lt_one | assumption | omega), ?_⟩
    | refine ⟨Or.inl rfl, ?_⟩
    | refine ⟨Or.inr (Or.inl rfl), ?_⟩
    | refine ⟨Or.inr (Or.inr rfl), ?_⟩
    | refine ⟨Or.inr ⟨rfl, (by first | exact Or.inl rfl | exact Or.inr rfl | assumption)⟩, ?_⟩
    | refine ⟨fun h => absurd h (by decide), fun _ => ?_⟩
    | refine ⟨fun _ => ?_, fun h => absurd h (by decide)⟩
    | refine ⟨fun h => ?_, fun h => ?_⟩
    | fail)
  all_goals
    funext f i k
    simp only [cAt, cHd, zu]
    grind
def qMore (n : Nat) (q : zQ) : Prop := q.2 = -1 ∧ q.1 < n
/-- the further tests: k may come, any so far -/
def qLR (a : Nat → Int32) (n : Nat) : Nat → Int32 → zQ → List rT → Int32 → zQ → Prop
  | 0, any, q, ts, any', q' => ts = [] ∧ any' = any ∧ q' = q
  | k + 1, any, q, ts, any', q' => (¬ qMore n q ∧ ts = [] ∧ any' = any ∧ q' = q) ∨ (qMore n q ∧ ∃ q1 any1 v2 q2 q3 t q4 ts', qB a n q = q1 ∧ (if k = 2 then qW a n q1 10 = (v2, q2) ∧ any1 = (if v2 = 1 then 1 else 0) else qW a n q1 (if any = 0 then 12 else 11) = (v2, q2) ∧ any1 = any) ∧ qB a n q2 = q3 ∧ qTR a n q3 t q4 ∧ ts = t :: ts' ∧ qLR a n k any1 q4 ts' any' q')
def cTs (μ : zMu) (r : Nat) : Nat → List rT → zMu
  | _, [] => μ
  | j, t :: ts => cTs (cTe μ r j t) r (j + 1) ts
def zOff (r : Nat) (μ μ' : zMu) : Prop := ∀ f i k, ¬ (f = 2 ∧ i = 0 ∧ (k = 2 ∨ k = 3)) → ¬ (f = 8 ∧ i = r ∧ k = 3) → μ f i k = μ' f i k
theorem cTe_off {r j : Nat} {t : rT} {μ μ' : zMu} (h : zOff r μ μ') : zOff r (cTe μ r j t) (cTe μ' r j t) := by
  intro f i k h1 h2
  have := h f i k h1 h2
  simp only [cTe, zu]
  grind
theorem cTs_off {r : Nat} : ∀ {ts : List rT} {j : Nat} {μ μ' : zMu}, zOff r μ μ' → zOff r (cTs μ r j ts) (cTs μ' r j ts)
  | [], _, _, _, h => h
  | t :: ts, j, μ, μ', h => cTs_off (ts := ts) (j := j + 1) (cTe_off h)
theorem cAt_off {r : Nat} {μ μ' : zMu} {any : Int32} {q : zQ} (h : zOff r μ μ') : cAt (zu μ 8 r 3 any) q = cAt (zu μ' 8 r 3 any) q := by
  funext f i k
  have := h f i k
  simp only [cAt, zu]
  grind
theorem cAt_any {r : Nat} {μ : zMu} {any : Int32} {q : zQ} (h1 : μ 2 0 2 = nI q.1) (h2 : μ 2 0 3 = q.2) (h3 : μ 8 r 3 = any) : cAt (zu μ 8 r 3 any) q = μ := by
  funext f i k
  simp only [cAt, zu]
  grind
theorem qMore_iff {μ : zMu} {n : Nat} {q : zQ} (hn : μ 2 0 0 = nI n) (h200 : n ≤ 200) (h2 : μ 2 0 2 = nI q.1) (h3 : μ 2 0 3 = q.2) (hq : q.1 ≤ n) : (μ 2 0 3 = -1 ∧ μ 2 0 2 < μ 2 0 0) ↔ qMore n q := by
  rw [hn, h2, h3, nI_ltI (by omega) (by omega)]
  exact Iff.rfl
set_option maxHeartbeats 8000000 in
theorem c_Tp_readTests {d n r : Nat} {μ : zMu} {a : Nat → Int32} {q : zQ} {any : Int32} {K : Option zV → zMu → Prop} (hr : r < 16) (hn : μ 2 0 0 = nI n) (h200 : n ≤ 200) (hA : μ 18 0 = a) (h2 : μ 2 0 2 = nI q.1) (h3 : μ 2 0 3 = q.2) (hq : q.1 ≤ n) (hany : μ 8 r 3 = any)
    (hK : ∀ (v2 : Int32) (q1 q2 q3 q4 : zQ) (t : rT) (ts : List rT) (any' : Int32) (q' : zQ), qB a n q = q1 → qW a n q1 4 = (v2, q2) → qB a n q2 = q3 → qTR a n q3 t q4 → qLR a n 3 any q4 ts any' q' → q'.1 ≤ n → K none (cAt (zu (cTs μ r 0 (t :: ts)) 8 r 3 any') q')) : Ct (d + 6) m_Tp_readTests [zR 2 0, zR 8 r] μ K := by
  refine zmeet rfl (Nat.le_of_ble_eq_true rfl) (fun S => ?_)
  have L : ∀ (k j : Nat) (x : Int32) (any : Int32) (q : zQ) (μ1 : zMu), j + k = 4 → 1 ≤ j → x = nI j → μ1 2 0 0 = nI n → μ1 18 0 = a → μ1 2 0 2 = nI q.1 → μ1 2 0 3 = q.2 → q.1 ≤ n → μ1 8 r 3 = any → (∀ (ts : List rT) (any' : Int32) (q' : zQ), qLR a n k any q ts any' q' → q'.1 ≤ n → K none (cAt (zu (cTs μ1 r j ts) 8 r 3 any') q')) → zG S (d + 6) m_Tp_readTests K 23 [some (zR 2 0), some (zR 8 r), some (zI x)] [] μ1 := by
    intro k
    induction k with
    | zero =>
      intro j x any q μ1 hjk hj1 hx gn gA g2 g3 gq gany gK
      subst hx
      obtain rfl : j = 4 := by omega
      have hk := gK [] any q ⟨rfl, rfl, rfl⟩ gq
      rw [cTs, cAt_any g2 g3 gany] at hk
      refine zs k_Tp_readTests rfl ?_
      repeat' (first
        | refine br_t (by decide) ?_
        | exact hk
        | refine zs k_Tp_readTests rfl ?_
        | refine ⟨Nat.zero_lt_one, rfl, ?_⟩
        | refine ⟨rfl, ?_⟩
        | refine ⟨⟨Nat.zero_lt_one, rfl⟩, Nat.le_of_ble_eq_true rfl, ?_⟩
        | refine ⟨Nat.le_of_ble_eq_true rfl, Nat.le_of_ble_eq_true rfl, ?_⟩
        | refine ⟨(by first | exact Nat.zero_lt_one | assumption | omega), (by first | assumption | exact vp_in_nI (by omega) (by omega) | (unfold vp_in; decide)), ?_⟩
        | refine ⟨(by first | exact Nat.zero_lt_one | assumption | omega), rfl, ?_⟩
        | refine ⟨⟨(by first | exact Nat.zero_lt_one | assumption | omega), rfl⟩, Nat.le_of_ble_eq_true rfl, ?_⟩
        | refine ⟨(by first | exact Nat.zero_lt_one | assumption | omega), ?_⟩
        | refine ⟨Or.inl rfl, ?_⟩
        | refine ⟨Or.inr (Or.inl rfl), ?_⟩
        | refine ⟨Or.inr (Or.inr rfl), ?_⟩
        | refine ⟨Or.inr ⟨rfl, (by first | exact Or.inl rfl | exact Or.inr rfl | assumption)⟩, ?_⟩
        | refine ⟨fun h => absurd h (by decide), fun _ => ?_⟩
        | refine ⟨fun _ => ?_, fun h => absurd h (by decide)⟩
        | refine ⟨fun h => ?_, fun h => ?_⟩
        | fail)
    | succ k ih =>
      intro j x any q μ1 hjk hj1 hx gn gA g2 g3 gq gany gK
      subst hx
      have hm := qMore_iff gn h200 g2 g3 gq
      have h4 : ¬ (4 : Int32) ≤ nI j := nI_ge (b := 4) (by omega) (by omega)
      by_cases hmore : qMore n q
      · have cont : ∀ (q1 : zQ) (any1 v2 : Int32) (q2 : zQ) (μ2 : zMu), qB a n q = q1 → (if k = 2 then qW a n q1 10 = (v2, q2) ∧ any1 = (if v2 = 1 then 1 else 0) else qW a n q1 (if any = 0 then 12 else 11) = (v2, q2) ∧ any1 = any) → q2.1 ≤ n → zOff r μ2 μ1 → μ2 2 0 2 = nI q2.1 → μ2 2 0 3 = q2.2 → μ2 8 r 3 = any1 → zG S (d + 6) m_Tp_readTests K 85 [some (zR 2 0), some (zR 8 r), some (zI (nI j))] [] μ2 := by
          intro q1 any1 v2 q2 μ2 eq1 eq2 hq2 hoff k2 k3 kany
          have kn : μ2 2 0 0 = nI n := by rw [hoff 2 0 0 (by omega) (by omega)]; exact gn
          have kA : μ2 18 0 = a := by
            rw [← gA]
            funext z
            exact hoff 18 0 z (by omega) (by omega)
          repeat' (first
            | refine ih (j + 1) _ any1 q4 _ (by omega) (by omega) (by exact nI_1 j) kn kA rfl rfl hq4 kany (fun ts any' q' hl hq' => ?_)
            | refine r_blank (a := a) (n := n) (q := q2) kn h200 kA k2 k3 hq2 (fun q3 e3 hq3 => ?_)
            | refine c_Tp_readTest (a := a) (n := n) (q := q3) hr (by omega) rfl kn h200 kA rfl rfl hq3 (fun t q4 e4 hq4 => ?_)
            | refine zs k_Tp_readTests rfl ?_
            | refine ⟨Nat.zero_lt_one, rfl, ?_⟩
            | refine ⟨rfl, ?_⟩
            | refine ⟨⟨Nat.zero_lt_one, rfl⟩, Nat.le_of_ble_eq_true rfl, ?_⟩
            | refine ⟨Nat.le_of_ble_eq_true rfl, Nat.le_of_ble_eq_true rfl, ?_⟩
            | refine ⟨(by first | exact Nat.zero_lt_one | assumption | omega), (by first | assumption | exact vp_in_nI (by omega) (by omega) | (unfold vp_in; decide)), ?_⟩
            | refine ⟨(by first | exact Nat.zero_lt_one | assumption | omega), rfl, ?_⟩
            | refine ⟨⟨(by first | exact Nat.zero_lt_one | assumption | omega), rfl⟩, Nat.le_of_ble_eq_true rfl, ?_⟩
            | refine ⟨(by first | exact Nat.zero_lt_one | assumption | omega), ?_⟩
            | refine ⟨Or.inl rfl, ?_⟩
            | refine ⟨Or.inr (Or.inl rfl), ?_⟩
            | refine ⟨Or.inr (Or.inr rfl), ?_⟩
            | refine ⟨Or.inr ⟨rfl, (by first | exact Or.inl rfl | exact Or.inr rfl | assumption)⟩, ?_⟩
            | refine ⟨fun h => absurd h (by decide), fun _ => ?_⟩
            | refine ⟨fun _ => ?_, fun h => absurd h (by decide)⟩
            | refine ⟨fun h => ?_, fun h => ?_⟩
            | fail)
          have hk := gK (t :: ts) any' q' (Or.inr ⟨hmore, q1, any1, v2, q2, q3, t, q4, ts, eq1, eq2, e3, e4, rfl, hl⟩) hq'
          refine zKn hk ?_
          refine cAt_off (cTs_off ?_)
          intro f i k' h1' h2'
          have := hoff f i k' h1' h2'
          simp only [cAt, cTe, zu]
          grind
        by_cases hj : j = 1
        · subst hj
          obtain rfl : k = 2 := by omega
          refine zs k_Tp_readTests rfl ?_
          repeat' (first
            | refine cont q1 0 v2 q2 _ e1 (by rw [if_pos rfl]; exact ⟨e2, by rw [if_neg (by assumption)]⟩) hq2 ?_ rfl rfl zu_eq
            | refine cont q1 1 v2 q2 _ e1 (by rw [if_pos rfl]; exact ⟨e2, by rw [if_pos (by assumption)]⟩) hq2 ?_ rfl rfl zu_eq
            | refine br_f h4 ?_
            | refine ⟨⟨rfl, (by omega)⟩, Nat.le_of_ble_eq_true rfl, ?_⟩
            | refine c_Tp_hasMore (fun _ => ?_) (fun h => absurd (hm.mpr hmore) h)
            | refine ⟨fun h => absurd rfl h, fun _ => ?_⟩
            | refine r_word (a := a) (n := n) (q := q1) (by omega) gn h200 gA rfl rfl hq1 (fun v2 q2 e2 hq2 => ?_)
            | refine r_blank (a := a) (n := n) (q := q) gn h200 gA g2 g3 gq (fun q1 e1 hq1 => ?_)
            | refine zs k_Tp_readTests rfl ?_
            | refine ⟨Nat.zero_lt_one, rfl, ?_⟩
            | refine ⟨rfl, ?_⟩
            | refine ⟨⟨Nat.zero_lt_one, rfl⟩, Nat.le_of_ble_eq_true rfl, ?_⟩
            | refine ⟨Nat.le_of_ble_eq_true rfl, Nat.le_of_ble_eq_true rfl, ?_⟩
            | refine ⟨(by first | exact Nat.zero_lt_one | assumption | omega), (by first | assumption | exact vp_in_nI (by omega) (by omega) | (unfold vp_in; decide)), ?_⟩
            | refine ⟨(by first | exact Nat.zero_lt_one | assumption | omega), rfl, ?_⟩
            | refine ⟨⟨(by first | exact Nat.zero_lt_one | assumption | omega), rfl⟩, Nat.le_of_ble_eq_true rfl, ?_⟩
            | refine ⟨(by first | exact Nat.zero_lt_one | assumption | omega), ?_⟩
            | refine ⟨Or.inl rfl, ?_⟩
            | refine ⟨Or.inr (Or.inl rfl), ?_⟩
            | refine ⟨Or.inr (Or.inr rfl), ?_⟩
            | refine ⟨Or.inr ⟨rfl, (by first | exact Or.inl rfl | exact Or.inr rfl | assumption)⟩, ?_⟩
            | refine ⟨fun h => absurd h (by decide), fun _ => ?_⟩
            | refine ⟨fun _ => ?_, fun h => absurd h (by decide)⟩
            | refine ⟨fun h => ?_, fun h => ?_⟩
            | fail)
          all_goals
            intro f i k' h1' h2'
            simp only [cAt, zu]
            grind
        · have hj2 : ¬ nI j = 1 := fun h => hj ((nI_eq (b := 1) (by omega) (by omega)).mp h)
          by_cases ha0 : any = 0
          · skip
            refine zs k_Tp_readTests rfl ?_
            repeat' (first
              | refine cont q1 any v2 q2 _ e1 (by rw [if_neg (by omega), if_pos ha0]; exact ⟨e2, rfl⟩) hq2 ?_ rfl rfl gany
              | refine br_f h4 ?_
              | refine ⟨⟨rfl, (by omega)⟩, Nat.le_of_ble_eq_true rfl, ?_⟩
              | refine c_Tp_hasMore (fun _ => ?_) (fun h => absurd (hm.mpr hmore) h)
              | refine ⟨fun _ => ?_, fun h => absurd h hj2⟩
              | refine br_t (gany.trans ha0) ?_
              | refine r_word (a := a) (n := n) (q := q1) (by omega) gn h200 gA rfl rfl hq1 (fun v2 q2 e2 hq2 => ?_)
              | refine r_blank (a := a) (n := n) (q := q) gn h200 gA g2 g3 gq (fun q1 e1 hq1 => ?_)
              | refine zs k_Tp_readTests rfl ?_
              | refine ⟨Nat.zero_lt_one, rfl, ?_⟩
              | refine ⟨rfl, ?_⟩
              | refine ⟨⟨Nat.zero_lt_one, rfl⟩, Nat.le_of_ble_eq_true rfl, ?_⟩
              | refine ⟨Nat.le_of_ble_eq_true rfl, Nat.le_of_ble_eq_true rfl, ?_⟩
              | refine ⟨(by first | exact Nat.zero_lt_one | assumption | omega), (by first | assumption | exact vp_in_nI (by omega) (by omega) | (unfold vp_in; decide)), ?_⟩
              | refine ⟨(by first | exact Nat.zero_lt_one | assumption | omega), rfl, ?_⟩
              | refine ⟨⟨(by first | exact Nat.zero_lt_one | assumption | omega), rfl⟩, Nat.le_of_ble_eq_true rfl, ?_⟩
              | refine ⟨(by first | exact Nat.zero_lt_one | assumption | omega), ?_⟩
              | refine ⟨Or.inl rfl, ?_⟩
              | refine ⟨Or.inr (Or.inl rfl), ?_⟩
              | refine ⟨Or.inr (Or.inr rfl), ?_⟩
              | refine ⟨Or.inr ⟨rfl, (by first | exact Or.inl rfl | exact Or.inr rfl | assumption)⟩, ?_⟩
              | refine ⟨fun h => absurd h (by decide), fun _ => ?_⟩
              | refine ⟨fun _ => ?_, fun h => absurd h (by decide)⟩
              | refine ⟨fun h => ?_, fun h => ?_⟩
              | fail)
            all_goals
              intro f i k' h1' h2'
              simp only [cAt, zu]
              grind
          · skip
            refine zs k_Tp_readTests rfl ?_
            repeat' (first
              | refine cont q1 any v2 q2 _ e1 (by rw [if_neg (by omega), if_neg ha0]; exact ⟨e2, rfl⟩) hq2 ?_ rfl rfl gany
              | refine br_f h4 ?_
              | refine ⟨⟨rfl, (by omega)⟩, Nat.le_of_ble_eq_true rfl, ?_⟩
              | refine c_Tp_hasMore (fun _ => ?_) (fun h => absurd (hm.mpr hmore) h)
              | refine ⟨fun _ => ?_, fun h => absurd h hj2⟩
              | refine br_f (fun h => ha0 (gany.symm.trans h)) ?_
              | refine r_word (a := a) (n := n) (q := q1) (by omega) gn h200 gA rfl rfl hq1 (fun v2 q2 e2 hq2 => ?_)
              | refine r_blank (a := a) (n := n) (q := q) gn h200 gA g2 g3 gq (fun q1 e1 hq1 => ?_)
              | refine zs k_Tp_readTests rfl ?_
              | refine ⟨Nat.zero_lt_one, rfl, ?_⟩
              | refine ⟨rfl, ?_⟩
              | refine ⟨⟨Nat.zero_lt_one, rfl⟩, Nat.le_of_ble_eq_true rfl, ?_⟩
              | refine ⟨Nat.le_of_ble_eq_true rfl, Nat.le_of_ble_eq_true rfl, ?_⟩
              | refine ⟨(by first | exact Nat.zero_lt_one | assumption | omega), (by first | assumption | exact vp_in_nI (by omega) (by omega) | (unfold vp_in; decide)), ?_⟩
              | refine ⟨(by first | exact Nat.zero_lt_one | assumption | omega), rfl, ?_⟩
              | refine ⟨⟨(by first | exact Nat.zero_lt_one | assumption | omega), rfl⟩, Nat.le_of_ble_eq_true rfl, ?_⟩
              | refine ⟨(by first | exact Nat.zero_lt_one | assumption | omega), ?_⟩
              | refine ⟨Or.inl rfl, ?_⟩
              | refine ⟨Or.inr (Or.inl rfl), ?_⟩
              | refine ⟨Or.inr (Or.inr rfl), ?_⟩
              | refine ⟨Or.inr ⟨rfl, (by first | exact Or.inl rfl | exact Or.inr rfl | assumption)⟩, ?_⟩
              | refine ⟨fun h => absurd h (by decide), fun _ => ?_⟩
              | refine ⟨fun _ => ?_, fun h => absurd h (by decide)⟩
              | refine ⟨fun h => ?_, fun h => ?_⟩
              | fail)
            all_goals
              intro f i k' h1' h2'
              simp only [cAt, zu]
              grind
      · have hk := gK [] any q (Or.inl ⟨hmore, rfl, rfl, rfl⟩) gq
        rw [cTs, cAt_any g2 g3 gany] at hk
        refine zs k_Tp_readTests rfl ?_
        repeat' (first
          | refine br_f h4 ?_
          | refine c_Tp_hasMore (fun h => absurd (hm.mp h) hmore) (fun _ => ?_)
          | exact hk
          | refine zs k_Tp_readTests rfl ?_
          | refine ⟨Nat.zero_lt_one, rfl, ?_⟩
          | refine ⟨rfl, ?_⟩
          | refine ⟨⟨Nat.zero_lt_one, rfl⟩, Nat.le_of_ble_eq_true rfl, ?_⟩
          | refine ⟨Nat.le_of_ble_eq_true rfl, Nat.le_of_ble_eq_true rfl, ?_⟩
          | refine ⟨(by first | exact Nat.zero_lt_one | assumption | omega), (by first | assumption | exact vp_in_nI (by omega) (by omega) | (unfold vp_in; decide)), ?_⟩
          | refine ⟨(by first | exact Nat.zero_lt_one | assumption | omega), rfl, ?_⟩
          | refine ⟨⟨(by first | exact Nat.zero_lt_one | assumption | omega), rfl⟩, Nat.le_of_ble_eq_true rfl, ?_⟩
          | refine ⟨(by first | exact Nat.zero_lt_one | assumption | omega), ?_⟩
          | refine ⟨Or.inl rfl, ?_⟩
          | refine ⟨Or.inr (Or.inl rfl), ?_⟩
          | refine ⟨Or.inr (Or.inr rfl), ?_⟩
          | refine ⟨Or.inr ⟨rfl, (by first | exact Or.inl rfl | exact Or.inr rfl | assumption)⟩, ?_⟩
          | refine ⟨fun h => absurd h (by decide), fun _ => ?_⟩
          | refine ⟨fun _ => ?_, fun h => absurd h (by decide)⟩
          | refine ⟨fun h => ?_, fun h => ?_⟩
          | fail)
  repeat' (first
    | refine ⟨⟨rfl, (by omega)⟩, Nat.le_of_ble_eq_true rfl, ?_⟩
    | refine L 3 1 _ any q4 _ (by omega) (by omega) rfl hn hA rfl rfl hq4 hany (fun ts any' q' hl hq' => ?_)
    | refine c_Tp_readTest (a := a) (n := n) (q := q3) (j := 0) hr (by omega) rfl hn h200 hA rfl rfl hq3 (fun t q4 e4 hq4 => ?_)
    | refine r_blank (a := a) (n := n) (q := q2) hn h200 hA rfl rfl hq2 (fun q3 e3 hq3 => ?_)
    | refine r_word (a := a) (n := n) (q := q1) (by omega) hn h200 hA rfl rfl hq1 (fun v2 q2 e2 hq2 => ?_)
    | refine r_blank (a := a) (n := n) (q := q) hn h200 hA h2 h3 hq (fun q1 e1 hq1 => ?_)
    | refine zs k_Tp_readTests rfl ?_
    | refine ⟨Nat.zero_lt_one, rfl, ?_⟩
    | refine ⟨rfl, ?_⟩
    | refine ⟨⟨Nat.zero_lt_one, rfl⟩, Nat.le_of_ble_eq_true rfl, ?_⟩
    | refine ⟨Nat.le_of_ble_eq_true rfl, Nat.le_of_ble_eq_true rfl, ?_⟩
    | refine ⟨(by first | exact Nat.zero_lt_one | assumption | omega), (by first | assumption | exact vp_in_nI (by omega) (by omega) | (unfold vp_in; decide)), ?_⟩
    | refine ⟨(by first | exact Nat.zero_lt_one | assumption | omega), rfl, ?_⟩
    | refine ⟨⟨(by first | exact Nat.zero_lt_one | assumption | omega), rfl⟩, Nat.le_of_ble_eq_true rfl, ?_⟩
    | refine ⟨(by first | exact Nat.zero_lt_one | assumption | omega), ?_⟩
    | refine ⟨Or.inl rfl, ?_⟩
    | refine ⟨Or.inr (Or.inl rfl), ?_⟩
    | refine ⟨Or.inr (Or.inr rfl), ?_⟩
    | refine ⟨Or.inr ⟨rfl, (by first | exact Or.inl rfl | exact Or.inr rfl | assumption)⟩, ?_⟩
    | refine ⟨fun h => absurd h (by decide), fun _ => ?_⟩
    | refine ⟨fun _ => ?_, fun h => absurd h (by decide)⟩
    | refine ⟨fun h => ?_, fun h => ?_⟩
    | fail)
  refine zKn (hK v2 q1 q2 q3 q4 t ts any' q' e1 e2 e3 e4 hl hq') ?_
  refine cAt_off (cTs_off ?_)
  intro f i k' h1' h2'
  simp only [cAt, cTe, zu]
  grind
end
section
/-! TAPE: a whole rule; bytes come -/
def qTsR (a : Nat → Int32) (n : Nat) (q : zQ) (ts : List rT) (any : Int32) (q' : zQ) : Prop := (¬ qMore n q ∧ ts = [] ∧ any = 0 ∧ q' = q) ∨ (qMore n q ∧ ∃ v2 q1 q2 q3 q4 t ts', qB a n q = q1 ∧ qW a n q1 4 = (v2, q2) ∧ qB a n q2 = q3 ∧ qTR a n q3 t q4 ∧ qLR a n 3 0 q4 ts' any q' ∧ ts = t :: ts')
def qRR (a : Nat → Int32) (n : Nat) (oc ky dn : Int32) (ts : List rT) (any : Int32) (at_ : Nat) (fl : Int32) : Prop := ∃ q1 q2, qHR a n (0, -1) oc ky dn q1 ∧ qTsR a n q1 ts any q2 ∧ at_ = q2.1 ∧ ((qMore n q2 ∧ fl = nI q2.1) ∨ (¬ qMore n q2 ∧ fl = q2.2))
def cRd (μ : zMu) (r : Nat) (oc ky dn : Int32) (ts : List rT) (any : Int32) : zMu := zu (cTs (cHd (zu μ 8 r 4 0) r oc ky dn) r 0 ts) 8 r 3 any
theorem cTs_keep {r : Nat} {f i k : Nat} (hf : f ≠ 8 ∧ f ≠ 22 ∧ f ≠ 23 ∧ f ≠ 24 ∧ f ≠ 25 ∧ f ≠ 26) : ∀ {ts : List rT} {j : Nat} {μ : zMu}, cTs μ r j ts f i k = μ f i k
  | [], _, _ => rfl
  | t :: ts, j, μ => by
    rw [cTs, cTs_keep hf]
    simp only [cTe, zu]
    grind
theorem zOff_rd {μ : zMu} {r : Nat} {oc ky dn : Int32} {q1 : zQ} : zOff r (cAt (cHd (zu (zu (zu (zu μ 2 0 2 0) 2 0 3 (-1)) 8 r 4 0) 8 r 3 0) r oc ky dn) q1) (cHd (zu μ 8 r 4 0) r oc ky dn) := by
  intro f i k h1 h2
  simp only [cAt, cHd, zu]
  grind (splits := 40)
theorem cAt_cAt {μ : zMu} {q q' : zQ} : cAt (cAt μ q) q' = cAt μ q' := by
  funext f i k
  simp only [cAt, zu]
  grind
set_option maxHeartbeats 8000000 in
theorem c_Tp_readInto {d n r : Nat} {μ : zMu} {a : Nat → Int32} {K : Option zV → zMu → Prop} (hr : r < 16) (hn : μ 2 0 0 = nI n) (h200 : n ≤ 200) (hA : μ 18 0 = a)
    (hK : ∀ (oc ky dn : Int32) (ts : List rT) (any : Int32) (at_ : Nat) (fl : Int32), qRR a n oc ky dn ts any at_ fl → K (some (zI fl)) (cAt (cRd μ r oc ky dn ts any) (at_, fl))) : Ct (d + 7) m_Tp_readInto [zR 2 0, zR 8 r] μ K := by
  refine zmeet rfl (Nat.le_of_ble_eq_true rfl) (fun S => ?_)
  have fin : ∀ (oc ky dn : Int32) (ts : List rT) (any : Int32) (q1 q2 : zQ) (μ1 : zMu), qHR a n (0, -1) oc ky dn q1 → qTsR a n q1 ts any q2 → q2.1 ≤ n → μ1 2 0 0 = nI n → μ1 = cAt (cRd μ r oc ky dn ts any) q2 → zG S (d + 7) m_Tp_readInto K 37 [some (zR 2 0), some (zR 8 r)] [] μ1 := by
    intro oc ky dn ts any q1 q2 μ1 e1 e2 hq2 kn hm
    have k2 : μ1 2 0 2 = nI q2.1 := by rw [hm]; rfl
    have k3 : μ1 2 0 3 = q2.2 := by rw [hm]; rfl
    have hmi := qMore_iff kn h200 k2 k3 hq2
    by_cases hmore : qMore n q2
    · have hk := hK oc ky dn ts any q2.1 (nI q2.1) ⟨q1, q2, e1, e2, rfl, Or.inl ⟨hmore, rfl⟩⟩
      have hf : μ1 2 0 3 = -1 := k3.trans hmore.1
      have hmu : zu μ1 2 0 3 (μ1 2 0 2) = cAt (cRd μ r oc ky dn ts any) (q2.1, nI q2.1) := by
        rw [k2, hm]
        funext f i k
        simp only [cAt, zu]
        grind
      repeat' (first
        | refine c_Tp_hasMore (fun _ => ?_) (fun h => absurd (hmi.mpr hmore) h)
        | (refine c_Tp_fail ?_; rw [if_pos hf, hmu])
        | exact hk
        | refine zs k_Tp_readInto rfl ?_
        | refine ⟨Nat.zero_lt_one, rfl, ?_⟩
        | refine ⟨rfl, ?_⟩
        | refine ⟨⟨Nat.zero_lt_one, rfl⟩, Nat.le_of_ble_eq_true rfl, ?_⟩
        | refine ⟨Nat.le_of_ble_eq_true rfl, Nat.le_of_ble_eq_true rfl, ?_⟩
        | refine ⟨(by first | exact Nat.zero_lt_one | assumption | omega), (by first | assumption | exact vp_in_nI (by omega) (by omega) | (unfold vp_in; decide)), ?_⟩
        | refine ⟨(by first | exact Nat.zero_lt_one | assumption | omega), rfl, ?_⟩
        | refine ⟨⟨(by first | exact Nat.zero_lt_one | assumption | omega), rfl⟩, Nat.le_of_ble_eq_true rfl, ?_⟩
        | refine ⟨(by first | exact Nat.zero_lt_one | assumption | omega), ?_⟩
        | refine ⟨Or.inl rfl, ?_⟩
        | refine ⟨Or.inr (Or.inl rfl), ?_⟩
        | refine ⟨Or.inr (Or.inr rfl), ?_⟩
        | refine ⟨Or.inr ⟨rfl, (by first | exact Or.inl rfl | exact Or.inr rfl | assumption)⟩, ?_⟩
        | refine ⟨fun h => absurd h (by decide), fun _ => ?_⟩
        | refine ⟨fun _ => ?_, fun h => absurd h (by decide)⟩
        | refine ⟨fun h => ?_, fun h => ?_⟩
        | fail)
    · have hk := hK oc ky dn ts any q2.1 q2.2 ⟨q1, q2, e1, e2, rfl, Or.inr ⟨hmore, rfl⟩⟩
      repeat' (first
        | refine c_Tp_hasMore (fun h => absurd (hmi.mp h) hmore) (fun _ => ?_)
        | exact zKe hk k3 hm
        | refine zs k_Tp_readInto rfl ?_
        | refine ⟨Nat.zero_lt_one, rfl, ?_⟩
        | refine ⟨rfl, ?_⟩
        | refine ⟨⟨Nat.zero_lt_one, rfl⟩, Nat.le_of_ble_eq_true rfl, ?_⟩
        | refine ⟨Nat.le_of_ble_eq_true rfl, Nat.le_of_ble_eq_true rfl, ?_⟩
        | refine ⟨(by first | exact Nat.zero_lt_one | assumption | omega), (by first | assumption | exact vp_in_nI (by omega) (by omega) | (unfold vp_in; decide)), ?_⟩
        | refine ⟨(by first | exact Nat.zero_lt_one | assumption | omega), rfl, ?_⟩
        | refine ⟨⟨(by first | exact Nat.zero_lt_one | assumption | omega), rfl⟩, Nat.le_of_ble_eq_true rfl, ?_⟩
        | refine ⟨(by first | exact Nat.zero_lt_one | assumption | omega), ?_⟩
        | refine ⟨Or.inl rfl, ?_⟩
        | refine ⟨Or.inr (Or.inl rfl), ?_⟩
        | refine ⟨Or.inr (Or.inr rfl), ?_⟩
        | refine ⟨Or.inr ⟨rfl, (by first | exact Or.inl rfl | exact Or.inr rfl | assumption)⟩, ?_⟩
        | refine ⟨fun h => absurd h (by decide), fun _ => ?_⟩
        | refine ⟨fun _ => ?_, fun h => absurd h (by decide)⟩
        | refine ⟨fun h => ?_, fun h => ?_⟩
        | fail)
  repeat' (first
    | refine fin oc ky dn (t :: ts) any' q1 q' _ e1 (Or.inr ⟨(qMore_iff (μ := cAt (cHd (zu (zu (zu (zu μ 2 0 2 0) 2 0 3 (-1)) 8 r 4 0) 8 r 3 0) r oc ky dn) q1) (q := q1) hn h200 rfl rfl hq1).mp h, v2, p1, p2, p3, p4, t, ts, f1, f2, f3, f4, f5, rfl⟩) hq' ?_ ?_
    | refine fin oc ky dn [] 0 q1 q1 _ e1 (Or.inl ⟨fun hh => h ((qMore_iff (μ := cAt (cHd (zu (zu (zu (zu μ 2 0 2 0) 2 0 3 (-1)) 8 r 4 0) 8 r 3 0) r oc ky dn) q1) (q := q1) hn h200 rfl rfl hq1).mpr hh), rfl, rfl, rfl⟩) hq1 hn ?_
    | refine c_Tp_readHead (a := a) (n := n) (q := (0, -1)) hr hn h200 hA rfl rfl (Nat.zero_le n) (fun oc ky dn q1 e1 hq1 => ?_)
    | refine c_Tp_hasMore (fun h => ?_) (fun h => ?_)
    | refine c_Tp_readTests (a := a) (n := n) (q := q1) (any := 0) hr hn h200 hA rfl rfl hq1 zu_eq (fun v2 p1 p2 p3 p4 t ts any' q' f1 f2 f3 f4 f5 hq' => ?_)
    | refine zs k_Tp_readInto rfl ?_
    | refine ⟨Nat.zero_lt_one, rfl, ?_⟩
    | refine ⟨rfl, ?_⟩
    | refine ⟨⟨Nat.zero_lt_one, rfl⟩, Nat.le_of_ble_eq_true rfl, ?_⟩
    | refine ⟨Nat.le_of_ble_eq_true rfl, Nat.le_of_ble_eq_true rfl, ?_⟩
    | refine ⟨(by first | exact Nat.zero_lt_one | assumption | omega), (by first | assumption | exact vp_in_nI (by omega) (by omega) | (unfold vp_in; decide)), ?_⟩
    | refine ⟨(by first | exact Nat.zero_lt_one | assumption | omega), rfl, ?_⟩
    | refine ⟨⟨(by first | exact Nat.zero_lt_one | assumption | omega), rfl⟩, Nat.le_of_ble_eq_true rfl, ?_⟩
    | refine ⟨(by first | exact Nat.zero_lt_one | assumption | omega), ?_⟩
    | refine ⟨Or.inl rfl, ?_⟩
    | refine ⟨Or.inr (Or.inl rfl), ?_⟩
    | refine ⟨Or.inr (Or.inr rfl), ?_⟩
    | refine ⟨Or.inr ⟨rfl, (by first | exact Or.inl rfl | exact Or.inr rfl | assumption)⟩, ?_⟩
    | refine ⟨fun h => absurd h (by decide), fun _ => ?_⟩
    | refine ⟨fun _ => ?_, fun h => absurd h (by decide)⟩
    | refine ⟨fun h => ?_, fun h => ?_⟩
    | fail)
  · show cTs _ r 0 (t :: ts) 2 0 0 = nI n
    rw [cTs_keep (by decide)]
    exact hn
  · exact cAt_off (cTs_off zOff_rd)
  · simp only [cRd, cTs]
    funext f i k
    simp only [cAt, cHd, zu]
    grind
/-- bytes behind the tape's: from the w's higher ones on -/
def pFeed (w : Int64) (i : Nat) : Int32 := (w.toUInt64 >>> ((8 * nI i).toInt64.toUInt64 &&& Int64.toUInt64 63)).toInt64.toInt32 &&& 255
def cFed (μ : zMu) (n0 m : Nat) (w : Int64) (i : Nat) : zMu := fun f a b => if f = 18 ∧ a = 0 ∧ n0 ≤ b ∧ b < n0 + (m - i) then pFeed w (m - 1 - (b - n0)) else if f = 2 ∧ a = 0 ∧ b = 0 then nI (n0 + (m - i)) else μ f a b
theorem c_Tp_append {d n0 m : Nat} {μ : zMu} {w : Int64} {x : Int32} {K : Option zV → zMu → Prop} (hx : x = nI m) (hn : μ 2 0 0 = nI n0) (hm : n0 + m ≤ 200) (hK : K (some (zI (nI (n0 + m)))) (cFed μ n0 m w 0)) : Ct d m_Tp_append [zR 2 0, zL w, zI x] μ K := by
  subst hx
  refine zmeet rfl (Nat.le_of_ble_eq_true rfl) (fun S => ?_)
  have L : ∀ (i : Nat) (v : Int32) (μ1 : zMu), i ≤ m → v = nI i - 1 → μ1 = cFed μ n0 m w i → zG S d m_Tp_append K 5 [some (zR 2 0), some (zL w), none, some (zI (nI m)), some (zI v)] [] μ1 := by
    intro i
    induction i with
    | zero =>
      intro v μ1 hi hv h1
      subst hv h1
      refine zs k_Tp_append rfl ?_
      repeat' (first
        | refine br_t (by decide) ?_
        | refine zKe hK ?_ rfl
        | refine zs k_Tp_append rfl ?_
        | refine ⟨Nat.zero_lt_one, rfl, ?_⟩
        | refine ⟨rfl, ?_⟩
        | refine ⟨⟨Nat.zero_lt_one, rfl⟩, Nat.le_of_ble_eq_true rfl, ?_⟩
        | refine ⟨Nat.le_of_ble_eq_true rfl, Nat.le_of_ble_eq_true rfl, ?_⟩
        | refine ⟨(by first | exact Nat.zero_lt_one | assumption | omega), (by first | assumption | exact vp_in_nI (by omega) (by omega) | (unfold vp_in; decide)), ?_⟩
        | refine ⟨(by first | exact Nat.zero_lt_one | assumption | omega), rfl, ?_⟩
        | refine ⟨⟨(by first | exact Nat.zero_lt_one | assumption | omega), rfl⟩, Nat.le_of_ble_eq_true rfl, ?_⟩
        | refine ⟨(by first | exact Nat.zero_lt_one | assumption | omega), ?_⟩
        | refine ⟨Or.inl rfl, ?_⟩
        | refine ⟨Or.inr (Or.inl rfl), ?_⟩
        | refine ⟨Or.inr (Or.inr rfl), ?_⟩
        | refine ⟨Or.inr ⟨rfl, (by first | exact Or.inl rfl | exact Or.inr rfl | assumption)⟩, ?_⟩
        | refine ⟨fun h => absurd h (by decide), fun _ => ?_⟩
        | refine ⟨fun _ => ?_, fun h => absurd h (by decide)⟩
        | refine ⟨fun h => ?_, fun h => ?_⟩
        | fail)
      show (if (2 = 18 ∧ _) then _ else if (2 = 2 ∧ 0 = 0 ∧ 0 = 0) then nI (n0 + (m - 0)) else _) = _
      rw [if_neg (by omega), if_pos (by omega)]
      rfl
    | succ i ih =>
      intro v μ1 hi hv h1
      subst hv
      rw [nI_pred]
      have hl : μ1 2 0 0 = nI (n0 + (m - (i + 1))) := by
        rw [h1]
        show (if (2 = 18 ∧ _) then _ else if (2 = 2 ∧ 0 = 0 ∧ 0 = 0) then nI (n0 + (m - (i + 1))) else _) = _
        rw [if_neg (by omega), if_pos (by omega)]
      have hvp : vp_in (μ1 2 0 0) 200 := by rw [hl]; exact vp_in_nI (by omega) (by omega)
      have hcl : (μ1 2 0 0).toNatClampNeg = n0 + (m - (i + 1)) := by rw [hl]; exact nI_clamp (by omega)
      refine zs k_Tp_append rfl ?_
      repeat' (first
        | refine br_f (nI_pos (by omega)) ?_
        | refine ih _ _ (by omega) (by exact i32_m1 _) ?_
        | refine zs k_Tp_append rfl ?_
        | refine ⟨Nat.zero_lt_one, rfl, ?_⟩
        | refine ⟨rfl, ?_⟩
        | refine ⟨⟨Nat.zero_lt_one, rfl⟩, Nat.le_of_ble_eq_true rfl, ?_⟩
        | refine ⟨Nat.le_of_ble_eq_true rfl, Nat.le_of_ble_eq_true rfl, ?_⟩
        | refine ⟨(by first | exact Nat.zero_lt_one | assumption | omega), (by first | assumption | exact vp_in_nI (by omega) (by omega) | (unfold vp_in; decide)), ?_⟩
        | refine ⟨(by first | exact Nat.zero_lt_one | assumption | omega), rfl, ?_⟩
        | refine ⟨⟨(by first | exact Nat.zero_lt_one | assumption | omega), rfl⟩, Nat.le_of_ble_eq_true rfl, ?_⟩
        | refine ⟨(by first | exact Nat.zero_lt_one | assumption | omega), ?_⟩
        | refine ⟨Or.inl rfl, ?_⟩
        | refine ⟨Or.inr (Or.inl rfl), ?_⟩
        | refine ⟨Or.inr (Or.inr rfl), ?_⟩
        | refine ⟨Or.inr ⟨rfl, (by first | exact Or.inl rfl | exact Or.inr rfl | assumption)⟩, ?_⟩
        | refine ⟨fun h => absurd h (by decide), fun _ => ?_⟩
        | refine ⟨fun _ => ?_, fun h => absurd h (by decide)⟩
        | refine ⟨fun h => ?_, fun h => ?_⟩
        | fail)
      rw [hcl]
      have e1 : zu μ1 18 0 (n0 + (m - (i + 1))) (pFeed w i) 2 0 0 = nI (n0 + (m - (i + 1))) := hl
      show zu (zu μ1 18 0 (n0 + (m - (i + 1))) (pFeed w i)) 2 0 0 (zu μ1 18 0 (n0 + (m - (i + 1))) (pFeed w i) 2 0 0 + 1) = _
      rw [e1, nI_1, h1]
      funext f a b
      simp only [cFed, zu]
      have e2 : n0 + (m - (i + 1)) + 1 = n0 + (m - i) := by omega
      rw [e2]
      by_cases hb : f = 18 ∧ b = n0 + (m - (i + 1)) ∧ a = 0
      · obtain ⟨rfl, rfl, rfl⟩ := hb
        rw [if_neg (by omega), if_pos (by omega), if_pos (by omega)]
        congr 1
        omega
      · by_cases hb2 : f = 2 ∧ b = 0 ∧ a = 0
        · obtain ⟨rfl, rfl, rfl⟩ := hb2
          rw [if_pos (by omega), if_neg (by omega), if_pos (by omega)]
        · rw [if_neg hb2, if_neg hb]
          by_cases h3 : f = 18 ∧ a = 0 ∧ n0 ≤ b ∧ b < n0 + (m - (i + 1))
          · rw [if_pos h3, if_pos (by omega)]
          · rw [if_neg h3, if_neg (by omega), if_neg (by omega), if_neg (by omega)]
  repeat' (first
    | refine L m _ _ (Nat.le_refl m) rfl ?_
    | refine zs k_Tp_append rfl ?_
    | refine ⟨Nat.zero_lt_one, rfl, ?_⟩
    | refine ⟨rfl, ?_⟩
    | refine ⟨⟨Nat.zero_lt_one, rfl⟩, Nat.le_of_ble_eq_true rfl, ?_⟩
    | refine ⟨Nat.le_of_ble_eq_true rfl, Nat.le_of_ble_eq_true rfl, ?_⟩
    | refine ⟨(by first | exact Nat.zero_lt_one | assumption | omega), (by first | assumption | exact vp_in_nI (by omega) (by omega) | (unfold vp_in; decide)), ?_⟩
    | refine ⟨(by first | exact Nat.zero_lt_one | assumption | omega), rfl, ?_⟩
    | refine ⟨⟨(by first | exact Nat.zero_lt_one | assumption | omega), rfl⟩, Nat.le_of_ble_eq_true rfl, ?_⟩
    | refine ⟨(by first | exact Nat.zero_lt_one | assumption | omega), ?_⟩
    | refine ⟨Or.inl rfl, ?_⟩
    | refine ⟨Or.inr (Or.inl rfl), ?_⟩
    | refine ⟨Or.inr (Or.inr rfl), ?_⟩
    | refine ⟨Or.inr ⟨rfl, (by first | exact Or.inl rfl | exact Or.inr rfl | assumption)⟩, ?_⟩
    | refine ⟨fun h => absurd h (by decide), fun _ => ?_⟩
    | refine ⟨fun _ => ?_, fun h => absurd h (by decide)⟩
    | refine ⟨fun h => ?_, fun h => ?_⟩
    | fail)
  funext f a b
  simp only [cFed]
  grind
end
section
/-! PROCESSION: who is next. lf: who is left; A q p: q is ahead of p -/
def pAh (lf : Nat → Bool) (A : Nat → Nat → Bool) (n p : Nat) : Int32 := pFst (fun q => decide (q ≠ p) && lf q && A q p) n
def pUn (lf : Nat → Bool) (A : Nat → Nat → Bool) (n : Nat) : Int32 := pFst (fun p => lf p && decide (pAh lf A n p = -1)) n
/-- the class's rows say lf and A -/
def cLf (μ : zMu) (lf : Nat → Bool) : Prop := ∀ p, p < 20 → μ 29 0 p = if lf p then 1 else 0
def cLd (μ : zMu) (A : Nat → Nat → Bool) (n : Nat) : Prop := ∀ q p, q < n → p < n → q ≠ p → (μ 33 q p = 1 ↔ A q p = true)
theorem c_Pr_leastLeft {d n : Nat} {μ : zMu} {lf : Nat → Bool} {K : Option zV → zMu → Prop} (hn : μ 1 0 1 = nI n) (h20 : n ≤ 20) (hl : cLf μ lf) (hK : K (some (zI (pFst lf n))) μ) : Ct d m_Pr_leastLeft [zR 4 0] μ K := by
  refine zmeet rfl (Nat.le_of_ble_eq_true rfl) (fun S => ?_)
  have L : ∀ (k i : Nat) (x : Int32), i + k = n → x = nI i → (∀ r, r < i → lf r = false) → zG S d m_Pr_leastLeft K 2 [some (zR 4 0), some (zI x)] [] μ := by
    intro k
    induction k with
    | zero =>
      intro i x hi hx h0
      subst hx
      obtain rfl : i = n := by omega
      rw [pFst_none h0] at hK
      refine zs k_Pr_leastLeft rfl ?_
      repeat' (first
        | exact hK
        | refine zs k_Pr_leastLeft rfl ?_
        | refine br_t (by simp (disch := omega) only [hn, nI_leI, nI_ltI, nI_eq]; omega) ?_
        | refine br_f (by simp (disch := omega) only [hn, nI_leI, nI_ltI, nI_eq]; omega) ?_
        | refine ⟨Nat.zero_lt_one, rfl, ?_⟩
        | refine ⟨rfl, ?_⟩
        | refine ⟨⟨Nat.zero_lt_one, rfl⟩, Nat.le_of_ble_eq_true rfl, ?_⟩
        | refine ⟨Nat.le_of_ble_eq_true rfl, Nat.le_of_ble_eq_true rfl, ?_⟩
        | refine ⟨(by first | exact Nat.zero_lt_one | assumption | omega), (by first | assumption | exact vp_in_nI (by omega) (by omega) | (unfold vp_in; decide)), ?_⟩
        | refine ⟨(by first | exact Nat.zero_lt_one | assumption | omega), rfl, ?_⟩
        | refine ⟨⟨(by first | exact Nat.zero_lt_one | assumption | omega), rfl⟩, Nat.le_of_ble_eq_true rfl, ?_⟩
        | refine ⟨(by first | exact Nat.zero_lt_one | assumption | omega), ?_⟩
        | refine ⟨Or.inl rfl, ?_⟩
        | refine ⟨Or.inr (Or.inl rfl), ?_⟩
        | refine ⟨Or.inr (Or.inr rfl), ?_⟩
        | refine ⟨Or.inr ⟨rfl, (by first | exact Or.inl rfl | exact Or.inr rfl | assumption)⟩, ?_⟩
        | refine ⟨fun h => absurd h (by decide), fun _ => ?_⟩
        | refine ⟨fun _ => ?_, fun h => absurd h (by decide)⟩
        | refine ⟨fun h => ?_, fun h => ?_⟩
        | fail)
    | succ k ih =>
      intro i x hi hx h0
      subst hx
      have hc : (nI i).toNatClampNeg = i := nI_clamp (by omega)
      have hli : μ 29 0 (nI i).toNatClampNeg = if lf i then 1 else 0 := by rw [hc]; exact hl i (by omega)
      cases hlf : lf i with
      | true =>
        rw [hlf] at hli
        rw [pFst_hit h0 hlf (by omega) (by omega)] at hK
        have hne : ¬ μ 29 0 (nI i).toNatClampNeg = 0 := by rw [hli]; decide
        refine zs k_Pr_leastLeft rfl ?_
        repeat' (first
          | refine br_f hne ?_
          | exact hK
          | refine zs k_Pr_leastLeft rfl ?_
          | refine br_t (by simp (disch := omega) only [hn, nI_leI, nI_ltI, nI_eq]; omega) ?_
          | refine br_f (by simp (disch := omega) only [hn, nI_leI, nI_ltI, nI_eq]; omega) ?_
          | refine ⟨Nat.zero_lt_one, rfl, ?_⟩
          | refine ⟨rfl, ?_⟩
          | refine ⟨⟨Nat.zero_lt_one, rfl⟩, Nat.le_of_ble_eq_true rfl, ?_⟩
          | refine ⟨Nat.le_of_ble_eq_true rfl, Nat.le_of_ble_eq_true rfl, ?_⟩
          | refine ⟨(by first | exact Nat.zero_lt_one | assumption | omega), (by first | assumption | exact vp_in_nI (by omega) (by omega) | (unfold vp_in; decide)), ?_⟩
          | refine ⟨(by first | exact Nat.zero_lt_one | assumption | omega), rfl, ?_⟩
          | refine ⟨⟨(by first | exact Nat.zero_lt_one | assumption | omega), rfl⟩, Nat.le_of_ble_eq_true rfl, ?_⟩
          | refine ⟨(by first | exact Nat.zero_lt_one | assumption | omega), ?_⟩
          | refine ⟨Or.inl rfl, ?_⟩
          | refine ⟨Or.inr (Or.inl rfl), ?_⟩
          | refine ⟨Or.inr (Or.inr rfl), ?_⟩
          | refine ⟨Or.inr ⟨rfl, (by first | exact Or.inl rfl | exact Or.inr rfl | assumption)⟩, ?_⟩
          | refine ⟨fun h => absurd h (by decide), fun _ => ?_⟩
          | refine ⟨fun _ => ?_, fun h => absurd h (by decide)⟩
          | refine ⟨fun h => ?_, fun h => ?_⟩
          | fail)
      | false =>
        rw [hlf] at hli
        have heq : μ 29 0 (nI i).toNatClampNeg = 0 := by rw [hli]; rfl
        refine zs k_Pr_leastLeft rfl ?_
        repeat' (first
          | refine br_t heq ?_
          | exact ih (i + 1) _ (by omega) (by exact nI_1 i) (lt_s h0 hlf)
          | refine zs k_Pr_leastLeft rfl ?_
          | refine br_t (by simp (disch := omega) only [hn, nI_leI, nI_ltI, nI_eq]; omega) ?_
          | refine br_f (by simp (disch := omega) only [hn, nI_leI, nI_ltI, nI_eq]; omega) ?_
          | refine ⟨Nat.zero_lt_one, rfl, ?_⟩
          | refine ⟨rfl, ?_⟩
          | refine ⟨⟨Nat.zero_lt_one, rfl⟩, Nat.le_of_ble_eq_true rfl, ?_⟩
          | refine ⟨Nat.le_of_ble_eq_true rfl, Nat.le_of_ble_eq_true rfl, ?_⟩
          | refine ⟨(by first | exact Nat.zero_lt_one | assumption | omega), (by first | assumption | exact vp_in_nI (by omega) (by omega) | (unfold vp_in; decide)), ?_⟩
          | refine ⟨(by first | exact Nat.zero_lt_one | assumption | omega), rfl, ?_⟩
          | refine ⟨⟨(by first | exact Nat.zero_lt_one | assumption | omega), rfl⟩, Nat.le_of_ble_eq_true rfl, ?_⟩
          | refine ⟨(by first | exact Nat.zero_lt_one | assumption | omega), ?_⟩
          | refine ⟨Or.inl rfl, ?_⟩
          | refine ⟨Or.inr (Or.inl rfl), ?_⟩
          | refine ⟨Or.inr (Or.inr rfl), ?_⟩
          | refine ⟨Or.inr ⟨rfl, (by first | exact Or.inl rfl | exact Or.inr rfl | assumption)⟩, ?_⟩
          | refine ⟨fun h => absurd h (by decide), fun _ => ?_⟩
          | refine ⟨fun _ => ?_, fun h => absurd h (by decide)⟩
          | refine ⟨fun h => ?_, fun h => ?_⟩
          | fail)
  repeat' (first
    | exact L n 0 _ (by omega) rfl (fun r hr => absurd hr (by omega))
    | refine zs k_Pr_leastLeft rfl ?_
    | refine ⟨Nat.zero_lt_one, rfl, ?_⟩
    | refine ⟨rfl, ?_⟩
    | refine ⟨⟨Nat.zero_lt_one, rfl⟩, Nat.le_of_ble_eq_true rfl, ?_⟩
    | refine ⟨Nat.le_of_ble_eq_true rfl, Nat.le_of_ble_eq_true rfl, ?_⟩
    | refine ⟨(by first | exact Nat.zero_lt_one | assumption | omega), (by first | assumption | exact vp_in_nI (by omega) (by omega) | (unfold vp_in; decide)), ?_⟩
    | refine ⟨(by first | exact Nat.zero_lt_one | assumption | omega), rfl, ?_⟩
    | refine ⟨⟨(by first | exact Nat.zero_lt_one | assumption | omega), rfl⟩, Nat.le_of_ble_eq_true rfl, ?_⟩
    | refine ⟨(by first | exact Nat.zero_lt_one | assumption | omega), ?_⟩
    | refine ⟨Or.inl rfl, ?_⟩
    | refine ⟨Or.inr (Or.inl rfl), ?_⟩
    | refine ⟨Or.inr (Or.inr rfl), ?_⟩
    | refine ⟨Or.inr ⟨rfl, (by first | exact Or.inl rfl | exact Or.inr rfl | assumption)⟩, ?_⟩
    | refine ⟨fun h => absurd h (by decide), fun _ => ?_⟩
    | refine ⟨fun _ => ?_, fun h => absurd h (by decide)⟩
    | refine ⟨fun h => ?_, fun h => ?_⟩
    | fail)
theorem c_Pr_leastAheadOf {d n p : Nat} {μ : zMu} {lf : Nat → Bool} {A : Nat → Nat → Bool} {y : Int32} {K : Option zV → zMu → Prop} (hn : μ 1 0 1 = nI n) (h20 : n ≤ 20) (hp : p < n) (hy : y = nI p) (hl : cLf μ lf) (hA : cLd μ A n) (hK : K (some (zI (pAh lf A n p))) μ) : Ct d m_Pr_leastAheadOf [zR 4 0, zI y] μ K := by
  subst hy
  refine zmeet rfl (Nat.le_of_ble_eq_true rfl) (fun S => ?_)
  unfold pAh at hK
  have hcp : (nI p).toNatClampNeg = p := nI_clamp (by omega)
  have L : ∀ (k i : Nat) (x : Int32), i + k = n → x = nI i → (∀ r, r < i → (decide (r ≠ p) && lf r && A r p) = false) → zG S d m_Pr_leastAheadOf K 2 [some (zR 4 0), some (zI (nI p)), some (zI x)] [] μ := by
    intro k
    induction k with
    | zero =>
      intro i x hi hx h0
      subst hx
      obtain rfl : i = n := by omega
      rw [pFst_none h0] at hK
      refine zs k_Pr_leastAheadOf rfl ?_
      repeat' (first
        | exact hK
        | refine zs k_Pr_leastAheadOf rfl ?_
        | refine br_t (by simp (disch := omega) only [hn, nI_leI, nI_ltI, nI_eq]; omega) ?_
        | refine br_f (by simp (disch := omega) only [hn, nI_leI, nI_ltI, nI_eq]; omega) ?_
        | refine ⟨Nat.zero_lt_one, rfl, ?_⟩
        | refine ⟨rfl, ?_⟩
        | refine ⟨⟨Nat.zero_lt_one, rfl⟩, Nat.le_of_ble_eq_true rfl, ?_⟩
        | refine ⟨Nat.le_of_ble_eq_true rfl, Nat.le_of_ble_eq_true rfl, ?_⟩
        | refine ⟨(by first | exact Nat.zero_lt_one | assumption | omega), (by first | assumption | exact vp_in_nI (by omega) (by omega) | (unfold vp_in; decide)), ?_⟩
        | refine ⟨(by first | exact Nat.zero_lt_one | assumption | omega), rfl, ?_⟩
        | refine ⟨⟨(by first | exact Nat.zero_lt_one | assumption | omega), rfl⟩, Nat.le_of_ble_eq_true rfl, ?_⟩
        | refine ⟨(by first | exact Nat.zero_lt_one | assumption | omega), ?_⟩
        | refine ⟨Or.inl rfl, ?_⟩
        | refine ⟨Or.inr (Or.inl rfl), ?_⟩
        | refine ⟨Or.inr (Or.inr rfl), ?_⟩
        | refine ⟨Or.inr ⟨rfl, (by first | exact Or.inl rfl | exact Or.inr rfl | assumption)⟩, ?_⟩
        | refine ⟨fun h => absurd h (by decide), fun _ => ?_⟩
        | refine ⟨fun _ => ?_, fun h => absurd h (by decide)⟩
        | refine ⟨fun h => ?_, fun h => ?_⟩
        | fail)
    | succ k ih =>
      intro i x hi hx h0
      subst hx
      have hc : (nI i).toNatClampNeg = i := nI_clamp (by omega)
      have hli : μ 29 0 (nI i).toNatClampNeg = if lf i then 1 else 0 := by rw [hc]; exact hl i (by omega)
      by_cases hip : i = p
      · have h1 := lt_s h0 (show (decide (i ≠ p) && lf i && A i p) = false by simp [hip])
        have hnn : nI i = nI p := by rw [hip]
        refine zs k_Pr_leastAheadOf rfl ?_
        repeat' (first
          | refine br_t hnn ?_
          | exact ih (i + 1) _ (by omega) (by exact nI_1 i) h1
          | refine zs k_Pr_leastAheadOf rfl ?_
          | refine br_t (by simp (disch := omega) only [hn, nI_leI, nI_ltI, nI_eq]; omega) ?_
          | refine br_f (by simp (disch := omega) only [hn, nI_leI, nI_ltI, nI_eq]; omega) ?_
          | refine ⟨Nat.zero_lt_one, rfl, ?_⟩
          | refine ⟨rfl, ?_⟩
          | refine ⟨⟨Nat.zero_lt_one, rfl⟩, Nat.le_of_ble_eq_true rfl, ?_⟩
          | refine ⟨Nat.le_of_ble_eq_true rfl, Nat.le_of_ble_eq_true rfl, ?_⟩
          | refine ⟨(by first | exact Nat.zero_lt_one | assumption | omega), (by first | assumption | exact vp_in_nI (by omega) (by omega) | (unfold vp_in; decide)), ?_⟩
          | refine ⟨(by first | exact Nat.zero_lt_one | assumption | omega), rfl, ?_⟩
          | refine ⟨⟨(by first | exact Nat.zero_lt_one | assumption | omega), rfl⟩, Nat.le_of_ble_eq_true rfl, ?_⟩
          | refine ⟨(by first | exact Nat.zero_lt_one | assumption | omega), ?_⟩
          | refine ⟨Or.inl rfl, ?_⟩
          | refine ⟨Or.inr (Or.inl rfl), ?_⟩
          | refine ⟨Or.inr (Or.inr rfl), ?_⟩
          | refine ⟨Or.inr ⟨rfl, (by first | exact Or.inl rfl | exact Or.inr rfl | assumption)⟩, ?_⟩
          | refine ⟨fun h => absurd h (by decide), fun _ => ?_⟩
          | refine ⟨fun _ => ?_, fun h => absurd h (by decide)⟩
          | refine ⟨fun h => ?_, fun h => ?_⟩
          | fail)
      · have hne0 : ¬ nI i = nI p := fun h => hip ((nI_eq (by omega) (by omega)).mp h)
        cases hlf : lf i with
        | false =>
          rw [hlf] at hli
          have heq : μ 29 0 (nI i).toNatClampNeg = 0 := by rw [hli]; rfl
          have h1 := lt_s h0 (show (decide (i ≠ p) && lf i && A i p) = false by simp [hlf])
          refine zs k_Pr_leastAheadOf rfl ?_
          repeat' (first
            | refine br_f hne0 ?_
            | refine br_t heq ?_
            | exact ih (i + 1) _ (by omega) (by exact nI_1 i) h1
            | refine zs k_Pr_leastAheadOf rfl ?_
            | refine br_t (by simp (disch := omega) only [hn, nI_leI, nI_ltI, nI_eq]; omega) ?_
            | refine br_f (by simp (disch := omega) only [hn, nI_leI, nI_ltI, nI_eq]; omega) ?_
            | refine ⟨Nat.zero_lt_one, rfl, ?_⟩
            | refine ⟨rfl, ?_⟩
            | refine ⟨⟨Nat.zero_lt_one, rfl⟩, Nat.le_of_ble_eq_true rfl, ?_⟩
            | refine ⟨Nat.le_of_ble_eq_true rfl, Nat.le_of_ble_eq_true rfl, ?_⟩
            | refine ⟨(by first | exact Nat.zero_lt_one | assumption | omega), (by first | assumption | exact vp_in_nI (by omega) (by omega) | (unfold vp_in; decide)), ?_⟩
            | refine ⟨(by first | exact Nat.zero_lt_one | assumption | omega), rfl, ?_⟩
            | refine ⟨⟨(by first | exact Nat.zero_lt_one | assumption | omega), rfl⟩, Nat.le_of_ble_eq_true rfl, ?_⟩
            | refine ⟨(by first | exact Nat.zero_lt_one | assumption | omega), ?_⟩
            | refine ⟨Or.inl rfl, ?_⟩
            | refine ⟨Or.inr (Or.inl rfl), ?_⟩
            | refine ⟨Or.inr (Or.inr rfl), ?_⟩
            | refine ⟨Or.inr ⟨rfl, (by first | exact Or.inl rfl | exact Or.inr rfl | assumption)⟩, ?_⟩
            | refine ⟨fun h => absurd h (by decide), fun _ => ?_⟩
            | refine ⟨fun _ => ?_, fun h => absurd h (by decide)⟩
            | refine ⟨fun h => ?_, fun h => ?_⟩
            | fail)
        | true =>
          rw [hlf] at hli
          have hne : ¬ μ 29 0 (nI i).toNatClampNeg = 0 := by rw [hli]; decide
          have hAi := hA i p (by omega) hp hip
          cases hAA : A i p with
          | true =>
            have he1 : μ 33 (nI i).toNatClampNeg (nI p).toNatClampNeg = 1 := by rw [hc, hcp]; exact hAi.mpr hAA
            rw [pFst_hit h0 (by simp [hip, hlf, hAA]) (by omega) (by omega)] at hK
            refine zs k_Pr_leastAheadOf rfl ?_
            repeat' (first
              | refine br_f hne0 ?_
              | refine br_f hne ?_
              | refine ⟨fun h => absurd he1 h, fun _ => ?_⟩
              | exact hK
              | refine zs k_Pr_leastAheadOf rfl ?_
              | refine br_t (by simp (disch := omega) only [hn, nI_leI, nI_ltI, nI_eq]; omega) ?_
              | refine br_f (by simp (disch := omega) only [hn, nI_leI, nI_ltI, nI_eq]; omega) ?_
              | refine ⟨Nat.zero_lt_one, rfl, ?_⟩
              | refine ⟨rfl, ?_⟩
              | refine ⟨⟨Nat.zero_lt_one, rfl⟩, Nat.le_of_ble_eq_true rfl, ?_⟩
              | refine ⟨Nat.le_of_ble_eq_true rfl, Nat.le_of_ble_eq_true rfl, ?_⟩
              | refine ⟨(by first | exact Nat.zero_lt_one | assumption | omega), (by first | assumption | exact vp_in_nI (by omega) (by omega) | (unfold vp_in; decide)), ?_⟩
              | refine ⟨(by first | exact Nat.zero_lt_one | assumption | omega), rfl, ?_⟩
              | refine ⟨⟨(by first | exact Nat.zero_lt_one | assumption | omega), rfl⟩, Nat.le_of_ble_eq_true rfl, ?_⟩
              | refine ⟨(by first | exact Nat.zero_lt_one | assumption | omega), ?_⟩
              | refine ⟨Or.inl rfl, ?_⟩
              | refine ⟨Or.inr (Or.inl rfl), ?_⟩
              | refine ⟨Or.inr (Or.inr rfl), ?_⟩
              | refine ⟨Or.inr ⟨rfl, (by first | exact Or.inl rfl | exact Or.inr rfl | assumption)⟩, ?_⟩
              | refine ⟨fun h => absurd h (by decide), fun _ => ?_⟩
              | refine ⟨fun _ => ?_, fun h => absurd h (by decide)⟩
              | refine ⟨fun h => ?_, fun h => ?_⟩
              | fail)
          | false =>
            have he1 : ¬ μ 33 (nI i).toNatClampNeg (nI p).toNatClampNeg = 1 := by rw [hc, hcp]; intro e; rw [hAi.mp e] at hAA; cases hAA
            have h1 := lt_s h0 (show (decide (i ≠ p) && lf i && A i p) = false by simp [hAA])
            refine zs k_Pr_leastAheadOf rfl ?_
            repeat' (first
              | refine br_f hne0 ?_
              | refine br_f hne ?_
              | refine ⟨fun _ => ?_, fun h => absurd h he1⟩
              | exact ih (i + 1) _ (by omega) (by exact nI_1 i) h1
              | refine zs k_Pr_leastAheadOf rfl ?_
              | refine br_t (by simp (disch := omega) only [hn, nI_leI, nI_ltI, nI_eq]; omega) ?_
              | refine br_f (by simp (disch := omega) only [hn, nI_leI, nI_ltI, nI_eq]; omega) ?_
              | refine ⟨Nat.zero_lt_one, rfl, ?_⟩
              | refine ⟨rfl, ?_⟩
              | refine ⟨⟨Nat.zero_lt_one, rfl⟩, Nat.le_of_ble_eq_true rfl, ?_⟩
              | refine ⟨Nat.le_of_ble_eq_true rfl, Nat.le_of_ble_eq_true rfl, ?_⟩
              | refine ⟨(by first | exact Nat.zero_lt_one | assumption | omega), (by first | assumption | exact vp_in_nI (by omega) (by omega) | (unfold vp_in; decide)), ?_⟩
              | refine ⟨(by first | exact Nat.zero_lt_one | assumption | omega), rfl, ?_⟩
              | refine ⟨⟨(by first | exact Nat.zero_lt_one | assumption | omega), rfl⟩, Nat.le_of_ble_eq_true rfl, ?_⟩
              | refine ⟨(by first | exact Nat.zero_lt_one | assumption | omega), ?_⟩
              | refine ⟨Or.inl rfl, ?_⟩
              | refine ⟨Or.inr (Or.inl rfl), ?_⟩
              | refine ⟨Or.inr (Or.inr rfl), ?_⟩
              | refine ⟨Or.inr ⟨rfl, (by first | exact Or.inl rfl | exact Or.inr rfl | assumption)⟩, ?_⟩
              | refine ⟨fun h => absurd h (by decide), fun _ => ?_⟩
              | refine ⟨fun _ => ?_, fun h => absurd h (by decide)⟩
              | refine ⟨fun h => ?_, fun h => ?_⟩
              | fail)
  repeat' (first
    | exact L n 0 _ (by omega) rfl (fun r hr => absurd hr (by omega))
    | refine zs k_Pr_leastAheadOf rfl ?_
    | refine ⟨Nat.zero_lt_one, rfl, ?_⟩
    | refine ⟨rfl, ?_⟩
    | refine ⟨⟨Nat.zero_lt_one, rfl⟩, Nat.le_of_ble_eq_true rfl, ?_⟩
    | refine ⟨Nat.le_of_ble_eq_true rfl, Nat.le_of_ble_eq_true rfl, ?_⟩
    | refine ⟨(by first | exact Nat.zero_lt_one | assumption | omega), (by first | assumption | exact vp_in_nI (by omega) (by omega) | (unfold vp_in; decide)), ?_⟩
    | refine ⟨(by first | exact Nat.zero_lt_one | assumption | omega), rfl, ?_⟩
    | refine ⟨⟨(by first | exact Nat.zero_lt_one | assumption | omega), rfl⟩, Nat.le_of_ble_eq_true rfl, ?_⟩
    | refine ⟨(by first | exact Nat.zero_lt_one | assumption | omega), ?_⟩
    | refine ⟨Or.inl rfl, ?_⟩
    | refine ⟨Or.inr (Or.inl rfl), ?_⟩
    | refine ⟨Or.inr (Or.inr rfl), ?_⟩
    | refine ⟨Or.inr ⟨rfl, (by first | exact Or.inl rfl | exact Or.inr rfl | assumption)⟩, ?_⟩
    | refine ⟨fun h => absurd h (by decide), fun _ => ?_⟩
    | refine ⟨fun _ => ?_, fun h => absurd h (by decide)⟩
    | refine ⟨fun h => ?_, fun h => ?_⟩
    | fail)
theorem c_Pr_leastUnled {d n : Nat} {μ : zMu} {lf : Nat → Bool} {A : Nat → Nat → Bool} {K : Option zV → zMu → Prop} (hn : μ 1 0 1 = nI n) (h20 : n ≤ 20) (hl : cLf μ lf) (hA : cLd μ A n) (hK : K (some (zI (pUn lf A n))) μ) : Ct (d + 1) m_Pr_leastUnled [zR 4 0] μ K := by
  refine zmeet rfl (Nat.le_of_ble_eq_true rfl) (fun S => ?_)
  unfold pUn at hK
  have L : ∀ (k i : Nat) (x : Int32), i + k = n → x = nI i → (∀ r, r < i → (lf r && decide (pAh lf A n r = -1)) = false) → zG S (d + 1) m_Pr_leastUnled K 2 [some (zR 4 0), some (zI x)] [] μ := by
    intro k
    induction k with
    | zero =>
      intro i x hi hx h0
      subst hx
      obtain rfl : i = n := by omega
      rw [pFst_none h0] at hK
      refine zs k_Pr_leastUnled rfl ?_
      repeat' (first
        | exact hK
        | refine zs k_Pr_leastUnled rfl ?_
        | refine br_t (by simp (disch := omega) only [hn, nI_leI, nI_ltI, nI_eq]; omega) ?_
        | refine br_f (by simp (disch := omega) only [hn, nI_leI, nI_ltI, nI_eq]; omega) ?_
        | refine ⟨Nat.zero_lt_one, rfl, ?_⟩
        | refine ⟨rfl, ?_⟩
        | refine ⟨⟨Nat.zero_lt_one, rfl⟩, Nat.le_of_ble_eq_true rfl, ?_⟩
        | refine ⟨Nat.le_of_ble_eq_true rfl, Nat.le_of_ble_eq_true rfl, ?_⟩
        | refine ⟨(by first | exact Nat.zero_lt_one | assumption | omega), (by first | assumption | exact vp_in_nI (by omega) (by omega) | (unfold vp_in; decide)), ?_⟩
        | refine ⟨(by first | exact Nat.zero_lt_one | assumption | omega), rfl, ?_⟩
        | refine ⟨⟨(by first | exact Nat.zero_lt_one | assumption | omega), rfl⟩, Nat.le_of_ble_eq_true rfl, ?_⟩
        | refine ⟨(by first | exact Nat.zero_lt_one | assumption | omega), ?_⟩
        | refine ⟨Or.inl rfl, ?_⟩
        | refine ⟨Or.inr (Or.inl rfl), ?_⟩
        | refine ⟨Or.inr (Or.inr rfl), ?_⟩
        | refine ⟨Or.inr ⟨rfl, (by first | exact Or.inl rfl | exact Or.inr rfl | assumption)⟩, ?_⟩
        | refine ⟨fun h => absurd h (by decide), fun _ => ?_⟩
        | refine ⟨fun _ => ?_, fun h => absurd h (by decide)⟩
        | refine ⟨fun h => ?_, fun h => ?_⟩
        | fail)
    | succ k ih =>
      intro i x hi hx h0
      subst hx
      have hc : (nI i).toNatClampNeg = i := nI_clamp (by omega)
      have hli : μ 29 0 (nI i).toNatClampNeg = if lf i then 1 else 0 := by rw [hc]; exact hl i (by omega)
      cases hlf : lf i with
      | false =>
        rw [hlf] at hli
        have heq : μ 29 0 (nI i).toNatClampNeg = 0 := by rw [hli]; rfl
        have h1 := lt_s h0 (show (lf i && decide (pAh lf A n i = -1)) = false by simp [hlf])
        refine zs k_Pr_leastUnled rfl ?_
        repeat' (first
          | refine br_t heq ?_
          | exact ih (i + 1) _ (by omega) (by exact nI_1 i) h1
          | refine zs k_Pr_leastUnled rfl ?_
          | refine br_t (by simp (disch := omega) only [hn, nI_leI, nI_ltI, nI_eq]; omega) ?_
          | refine br_f (by simp (disch := omega) only [hn, nI_leI, nI_ltI, nI_eq]; omega) ?_
          | refine ⟨Nat.zero_lt_one, rfl, ?_⟩
          | refine ⟨rfl, ?_⟩
          | refine ⟨⟨Nat.zero_lt_one, rfl⟩, Nat.le_of_ble_eq_true rfl, ?_⟩
          | refine ⟨Nat.le_of_ble_eq_true rfl, Nat.le_of_ble_eq_true rfl, ?_⟩
          | refine ⟨(by first | exact Nat.zero_lt_one | assumption | omega), (by first | assumption | exact vp_in_nI (by omega) (by omega) | (unfold vp_in; decide)), ?_⟩
          | refine ⟨(by first | exact Nat.zero_lt_one | assumption | omega), rfl, ?_⟩
          | refine ⟨⟨(by first | exact Nat.zero_lt_one | assumption | omega), rfl⟩, Nat.le_of_ble_eq_true rfl, ?_⟩
          | refine ⟨(by first | exact Nat.zero_lt_one | assumption | omega), ?_⟩
          | refine ⟨Or.inl rfl, ?_⟩
          | refine ⟨Or.inr (Or.inl rfl), ?_⟩
          | refine ⟨Or.inr (Or.inr rfl), ?_⟩
          | refine ⟨Or.inr ⟨rfl, (by first | exact Or.inl rfl | exact Or.inr rfl | assumption)⟩, ?_⟩
          | refine ⟨fun h => absurd h (by decide), fun _ => ?_⟩
          | refine ⟨fun _ => ?_, fun h => absurd h (by decide)⟩
          | refine ⟨fun h => ?_, fun h => ?_⟩
          | fail)
      | true =>
        rw [hlf] at hli
        have hne : ¬ μ 29 0 (nI i).toNatClampNeg = 0 := by rw [hli]; decide
        by_cases hah : pAh lf A n i = -1
        · rw [pFst_hit h0 (by simp [hlf, hah]) (by omega) (by omega)] at hK
          refine zs k_Pr_leastUnled rfl ?_
          repeat' (first
            | refine br_f hne ?_
            | refine c_Pr_leastAheadOf hn h20 (p := i) (by omega) rfl hl hA ?_
            | refine ⟨fun h => absurd hah h, fun _ => ?_⟩
            | exact hK
            | refine zs k_Pr_leastUnled rfl ?_
            | refine br_t (by simp (disch := omega) only [hn, nI_leI, nI_ltI, nI_eq]; omega) ?_
            | refine br_f (by simp (disch := omega) only [hn, nI_leI, nI_ltI, nI_eq]; omega) ?_
            | refine ⟨Nat.zero_lt_one, rfl, ?_⟩
            | refine ⟨rfl, ?_⟩
            | refine ⟨⟨Nat.zero_lt_one, rfl⟩, Nat.le_of_ble_eq_true rfl, ?_⟩
            | refine ⟨Nat.le_of_ble_eq_true rfl, Nat.le_of_ble_eq_true rfl, ?_⟩
            | refine ⟨(by first | exact Nat.zero_lt_one | assumption | omega), (by first | assumption | exact vp_in_nI (by omega) (by omega) | (unfold vp_in; decide)), ?_⟩
            | refine ⟨(by first | exact Nat.zero_lt_one | assumption | omega), rfl, ?_⟩
            | refine ⟨⟨(by first | exact Nat.zero_lt_one | assumption | omega), rfl⟩, Nat.le_of_ble_eq_true rfl, ?_⟩
            | refine ⟨(by first | exact Nat.zero_lt_one | assumption | omega), ?_⟩
            | refine ⟨Or.inl rfl, ?_⟩
            | refine ⟨Or.inr (Or.inl rfl), ?_⟩
            | refine ⟨Or.inr (Or.inr rfl), ?_⟩
            | refine ⟨Or.inr ⟨rfl, (by first | exact Or.inl rfl | exact Or.inr rfl | assumption)⟩, ?_⟩
            | refine ⟨fun h => absurd h (by decide), fun _ => ?_⟩
            | refine ⟨fun _ => ?_, fun h => absurd h (by decide)⟩
            | refine ⟨fun h => ?_, fun h => ?_⟩
            | fail)
        · have h1 := lt_s h0 (show (lf i && decide (pAh lf A n i = -1)) = false by simp [hah])
          refine zs k_Pr_leastUnled rfl ?_
          repeat' (first
            | refine br_f hne ?_
            | refine c_Pr_leastAheadOf hn h20 (p := i) (by omega) rfl hl hA ?_
            | refine ⟨fun _ => ?_, fun h => absurd h hah⟩
            | exact ih (i + 1) _ (by omega) (by exact nI_1 i) h1
            | refine zs k_Pr_leastUnled rfl ?_
            | refine br_t (by simp (disch := omega) only [hn, nI_leI, nI_ltI, nI_eq]; omega) ?_
            | refine br_f (by simp (disch := omega) only [hn, nI_leI, nI_ltI, nI_eq]; omega) ?_
            | refine ⟨Nat.zero_lt_one, rfl, ?_⟩
            | refine ⟨rfl, ?_⟩
            | refine ⟨⟨Nat.zero_lt_one, rfl⟩, Nat.le_of_ble_eq_true rfl, ?_⟩
            | refine ⟨Nat.le_of_ble_eq_true rfl, Nat.le_of_ble_eq_true rfl, ?_⟩
            | refine ⟨(by first | exact Nat.zero_lt_one | assumption | omega), (by first | assumption | exact vp_in_nI (by omega) (by omega) | (unfold vp_in; decide)), ?_⟩
            | refine ⟨(by first | exact Nat.zero_lt_one | assumption | omega), rfl, ?_⟩
            | refine ⟨⟨(by first | exact Nat.zero_lt_one | assumption | omega), rfl⟩, Nat.le_of_ble_eq_true rfl, ?_⟩
            | refine ⟨(by first | exact Nat.zero_lt_one | assumption | omega), ?_⟩
            | refine ⟨Or.inl rfl, ?_⟩
            | refine ⟨Or.inr (Or.inl rfl), ?_⟩
            | refine ⟨Or.inr (Or.inr rfl), ?_⟩
            | refine ⟨Or.inr ⟨rfl, (by first | exact Or.inl rfl | exact Or.inr rfl | assumption)⟩, ?_⟩
            | refine ⟨fun h => absurd h (by decide), fun _ => ?_⟩
            | refine ⟨fun _ => ?_, fun h => absurd h (by decide)⟩
            | refine ⟨fun h => ?_, fun h => ?_⟩
            | fail)
  repeat' (first
    | exact L n 0 _ (by omega) rfl (fun r hr => absurd hr (by omega))
    | refine zs k_Pr_leastUnled rfl ?_
    | refine ⟨Nat.zero_lt_one, rfl, ?_⟩
    | refine ⟨rfl, ?_⟩
    | refine ⟨⟨Nat.zero_lt_one, rfl⟩, Nat.le_of_ble_eq_true rfl, ?_⟩
    | refine ⟨Nat.le_of_ble_eq_true rfl, Nat.le_of_ble_eq_true rfl, ?_⟩
    | refine ⟨(by first | exact Nat.zero_lt_one | assumption | omega), (by first | assumption | exact vp_in_nI (by omega) (by omega) | (unfold vp_in; decide)), ?_⟩
    | refine ⟨(by first | exact Nat.zero_lt_one | assumption | omega), rfl, ?_⟩
    | refine ⟨⟨(by first | exact Nat.zero_lt_one | assumption | omega), rfl⟩, Nat.le_of_ble_eq_true rfl, ?_⟩
    | refine ⟨(by first | exact Nat.zero_lt_one | assumption | omega), ?_⟩
    | refine ⟨Or.inl rfl, ?_⟩
    | refine ⟨Or.inr (Or.inl rfl), ?_⟩
    | refine ⟨Or.inr (Or.inr rfl), ?_⟩
    | refine ⟨Or.inr ⟨rfl, (by first | exact Or.inl rfl | exact Or.inr rfl | assumption)⟩, ?_⟩
    | refine ⟨fun h => absurd h (by decide), fun _ => ?_⟩
    | refine ⟨fun _ => ?_, fun h => absurd h (by decide)⟩
    | refine ⟨fun h => ?_, fun h => ?_⟩
    | fail)
end
section
/-! PROCESSION: the ring -/
theorem pFst_m1 {P : Nat → Bool} : ∀ {n : Nat}, n < 2 ^ 31 → pFst P n = -1 → ∀ j, j < n → P j = false
  | 0, _, _ => fun j hj => absurd hj (by omega)
  | n + 1, h, h0 => by
    rw [pFst] at h0
    split at h0
    · rename_i h1
      have ih := pFst_m1 (P := P) (n := n) (by omega) h1
      intro j hj
      rcases Nat.lt_or_ge j n with q | q
      · exact ih j q
      · obtain rfl : j = n := by omega
        cases hp : P j with
        | false => rfl
        | true =>
          rw [hp, if_pos rfl] at h0
          exact absurd h0 (nI_nem1 (by omega))
    · contradiction
theorem pFst_in {P : Nat → Bool} : ∀ {n : Nat}, n < 2 ^ 31 → pFst P n = -1 ∨ ∃ r, r < n ∧ pFst P n = nI r ∧ P r = true ∧ ∀ j, j < r → P j = false
  | 0, _ => Or.inl rfl
  | n + 1, h => by
    rcases pFst_in (P := P) (n := n) (by omega) with h0 | ⟨r, h1, h2, h3, h4⟩
    · have hn := pFst_m1 (by omega) h0
      cases hp : P n with
      | true => exact Or.inr ⟨n, by omega, by rw [pFst, if_pos h0, hp, if_pos rfl], hp, hn⟩
      | false => exact Or.inl (by rw [pFst, if_pos h0, hp]; rfl)
    · exact Or.inr ⟨r, by omega, by rw [pFst, h2, if_neg (nI_nem1 (by omega))], h3, h4⟩
/-- the walk from one on: always the least of those left that are ahead -/
def pWk (lf : Nat → Bool) (A : Nat → Nat → Bool) (n st : Nat) : Nat → Nat
  | 0 => st
  | i + 1 => (pAh lf A n (pWk lf A n st i)).toNatClampNeg
/-- T steps till one comes again, which came at s first -/
def pRg (w : Nat → Nat) (T s : Nat) : Prop := s < T ∧ w T = w s ∧ ∀ i j, i < j → j < T → w i ≠ w j
theorem pRg_one {w : Nat → Nat} {T s T' s' : Nat} (h : pRg w T s) (h' : pRg w T' s') : T = T' ∧ s = s' := by
  obtain ⟨a1, a2, a3⟩ := h
  obtain ⟨b1, b2, b3⟩ := h'
  have hT : T = T' := by
    rcases Nat.lt_trichotomy T T' with q | q | q
    · exact absurd a2.symm (b3 s T a1 q)
    · exact q
    · exact absurd b2.symm (a3 s' T' b1 q)
  subst hT
  refine ⟨rfl, ?_⟩
  rcases Nat.lt_trichotomy s s' with q | q | q
  · exact absurd (a2.symm.trans b2) (a3 s s' q b1)
  · exact q
  · exact absurd (b2.symm.trans a2) (a3 s' s q a1)
/-- all who are left have one ahead: the walk stays among them -/
theorem pWk_in {lf : Nat → Bool} {A : Nat → Nat → Bool} {n st : Nat} (hn : n ≤ 20) (hs : st < n) (hl : lf st = true) (hu : ∀ p, p < n → lf p = true → ¬ pAh lf A n p = -1) : ∀ i, pWk lf A n st i < n ∧ lf (pWk lf A n st i) = true ∧ pAh lf A n (pWk lf A n st i) = nI (pWk lf A n st (i + 1))
  | 0 => by
    refine ⟨hs, hl, ?_⟩
    rcases pFst_in (P := fun q => decide (q ≠ st) && lf q && A q st) (n := n) (by omega) with h | ⟨r, h1, h2, -⟩
    · exact absurd h (hu st hs hl)
    · show pAh lf A n st = nI (pAh lf A n st).toNatClampNeg
      unfold pAh
      rw [h2, nI_clamp (by omega)]
  | i + 1 => by
    obtain ⟨h1, h2, h3⟩ := pWk_in hn hs hl hu i
    rcases pFst_in (P := fun q => decide (q ≠ pWk lf A n st i) && lf q && A q (pWk lf A n st i)) (n := n) (by omega) with h | ⟨r, g1, g2, g3, -⟩
    · exact absurd h (hu _ h1 h2)
    · have e : pWk lf A n st (i + 1) = r := by
        show (pAh lf A n (pWk lf A n st i)).toNatClampNeg = r
        unfold pAh
        rw [g2, nI_clamp (by omega)]
      have hlr : lf r = true := by
        simp only [Bool.and_eq_true] at g3
        exact g3.1.2
      refine ⟨by rw [e]; exact g1, by rw [e]; exact hlr, ?_⟩
      rw [e]
      rcases pFst_in (P := fun q => decide (q ≠ r) && lf q && A q r) (n := n) (by omega) with h | ⟨r', k1, k2, -⟩
      · exact absurd h (hu r g1 hlr)
      · show pAh lf A n r = nI (pAh lf A n (pWk lf A n st (i + 1))).toNatClampNeg
        rw [e]
        unfold pAh
        rw [k2, nI_clamp (by omega)]
end
section
/-! PROCESSION: tellRing -/
def zFrm (fs : List Nat) (μ μ' : zMu) : Prop := ∀ f i k, f ∉ fs → ¬ (f = 4 ∧ i = 0 ∧ k = 1) → μ' f i k = μ f i k
theorem fb_holes0 : ∀ (m n : Nat) (f : Nat → Nat), (∀ i, i < n → f i < m) → (∀ i j, i < j → j < n → f i ≠ f j) → n ≤ m
  | 0, n, f, h, _ => by
    rcases Nat.eq_zero_or_pos n with q | q
    · omega
    · exact absurd (h 0 q) (by omega)
  | m + 1, n, f, h, hd => by
    rcases Nat.eq_zero_or_pos n with q | q
    · omega
    · have := fb_holes0 m (n - 1) (fun i => if f i = m then f (n - 1) else f i) (fun i hi => by
        have h1 := h i (by omega)
        have h2 := h (n - 1) (by omega)
        have h3 := hd i (n - 1) (by omega) (by omega)
        show (if f i = m then f (n - 1) else f i) < m
        split <;> omega) (fun i j hij hj => by
        have h1 := hd i j hij (by omega)
        have h2 := hd i (n - 1) (by omega) (by omega)
        have h3 := hd j (n - 1) (by omega) (by omega)
        show (if f i = m then f (n - 1) else f i) ≠ (if f j = m then f (n - 1) else f j)
        split <;> split <;> omega)
      omega
theorem exS {w : Nat → Nat} {t : Nat} (P : Nat) : (∃ s, s < t ∧ w s = P) ∨ ∀ i, i < t → w i ≠ P := by
  induction t with
  | zero => exact Or.inr (fun i hi => absurd hi (by omega))
  | succ t ih =>
    rcases ih with ⟨s, h1, h2⟩ | h
    · exact Or.inl ⟨s, by omega, h2⟩
    · by_cases e : w t = P
      · exact Or.inl ⟨t, by omega, e⟩
      · exact Or.inr (lt_s h e)
set_option maxHeartbeats 4000000 in
theorem c_Pr_tellRing {d n st : Nat} {μ : zMu} {lf : Nat → Bool} {A : Nat → Nat → Bool} {y : Int32} {K : Option zV → zMu → Prop} (hn : μ 1 0 1 = nI n) (h20 : n ≤ 20) (hst : st < n) (hy : y = nI st) (hls : lf st = true) (hl : cLf μ lf) (hA : cLd μ A n) (hu : ∀ p, p < n → lf p = true → ¬ pAh lf A n p = -1) (hr0 : μ 4 0 1 = 0)
    (hK : ∀ (T s : Nat) (μ' : zMu), pRg (pWk lf A n st) T s → T ≤ 20 → zFrm [28, 30, 31] μ μ' → μ' 4 0 1 = nI (T - s) → (∀ k, k < T - s → μ' 28 0 k = nI (pWk lf A n st (s + k))) → K none μ') : Ct (d + 1) m_Pr_tellRing [zR 4 0, zI y] μ K := by
  subst hy
  refine zmeet rfl (Nat.le_of_ble_eq_true rfl) (fun S => ?_)
  have hw := pWk_in h20 hst hls hu
  generalize hwe : pWk lf A n st = w at hw hK
  -- the ring is copied
  have L2 : ∀ (T s : Nat), pRg w T s → T ≤ 20 → ∀ (k j : Nat) (x : Int32) (μ1 : zMu), j + k = T - s → x = nI (s + j) → zFrm [28, 30, 31] μ μ1 → μ1 4 0 1 = nI j → (∀ i, i < T → μ1 30 0 i = nI (w i)) → (∀ i, i < j → μ1 28 0 i = nI (w (s + i))) → zG S (d + 1) m_Pr_tellRing K 83 [some (zR 4 0), some (zI (nI st)), some (zI (nI (w T))), some (zI (nI T)), some (zI x)] [] μ1 := by
    intro T s hrg hT k
    have hsT := hrg.1
    induction k with
    | zero =>
      intro j x μ1 hj hx hf h1 hwk h28
      subst hx
      have hk := hK T s μ1 hrg hT hf (by rw [h1, show j = T - s by omega]) (fun i hi => h28 i (by omega))
      have hge : nI T ≤ nI (s + j) := nI_le (by omega) (by omega)
      refine zs k_Pr_tellRing rfl ?_
      repeat' (first
        | refine br_t hge ?_
        | exact hk
        | refine zs k_Pr_tellRing rfl ?_
        | refine ⟨Nat.zero_lt_one, rfl, ?_⟩
        | refine ⟨rfl, ?_⟩
        | refine ⟨⟨Nat.zero_lt_one, rfl⟩, Nat.le_of_ble_eq_true rfl, ?_⟩
        | refine ⟨Nat.le_of_ble_eq_true rfl, Nat.le_of_ble_eq_true rfl, ?_⟩
        | refine ⟨(by first | exact Nat.zero_lt_one | assumption | omega), (by first | assumption | exact vp_in_nI (by omega) (by omega) | (unfold vp_in; decide)), ?_⟩
        | refine ⟨(by first | exact Nat.zero_lt_one | assumption | omega), rfl, ?_⟩
        | refine ⟨⟨(by first | exact Nat.zero_lt_one | assumption | omega), rfl⟩, Nat.le_of_ble_eq_true rfl, ?_⟩
        | refine ⟨(by first | exact Nat.zero_lt_one | assumption | omega), ?_⟩
        | refine ⟨Or.inl rfl, ?_⟩
        | refine ⟨Or.inr (Or.inl rfl), ?_⟩
        | refine ⟨Or.inr (Or.inr rfl), ?_⟩
        | refine ⟨Or.inr ⟨rfl, (by first | exact Or.inl rfl | exact Or.inr rfl | assumption)⟩, ?_⟩
        | refine ⟨fun h => absurd h (by decide), fun _ => ?_⟩
        | refine ⟨fun _ => ?_, fun h => absurd h (by decide)⟩
        | refine ⟨fun h => ?_, fun h => ?_⟩
        | fail)
    | succ k ih =>
      intro j x μ1 hj hx hf h1 hwk h28
      subst hx
      have hlt : ¬ nI T ≤ nI (s + j) := nI_ge (by omega) (by omega)
      have hcs : (nI (s + j)).toNatClampNeg = s + j := nI_clamp (by omega)
      have hcj : (μ1 4 0 1).toNatClampNeg = j := by rw [h1]; exact nI_clamp (by omega)
      have hvj : vp_in (μ1 4 0 1) 20 := by rw [h1]; exact vp_in_nI (by omega) (by omega)
      have hv := hwk (s + j) (by omega)
      refine zs k_Pr_tellRing rfl ?_
      repeat' (first
        | refine br_f hlt ?_
        | refine ih (j + 1) _ _ (by omega) (by exact nI_1 (s + j)) ?_ ?_ ?_ ?_
        | refine zs k_Pr_tellRing rfl ?_
        | refine ⟨Nat.zero_lt_one, rfl, ?_⟩
        | refine ⟨rfl, ?_⟩
        | refine ⟨⟨Nat.zero_lt_one, rfl⟩, Nat.le_of_ble_eq_true rfl, ?_⟩
        | refine ⟨Nat.le_of_ble_eq_true rfl, Nat.le_of_ble_eq_true rfl, ?_⟩
        | refine ⟨(by first | exact Nat.zero_lt_one | assumption | omega), (by first | assumption | exact vp_in_nI (by omega) (by omega) | (unfold vp_in; decide)), ?_⟩
        | refine ⟨(by first | exact Nat.zero_lt_one | assumption | omega), rfl, ?_⟩
        | refine ⟨⟨(by first | exact Nat.zero_lt_one | assumption | omega), rfl⟩, Nat.le_of_ble_eq_true rfl, ?_⟩
        | refine ⟨(by first | exact Nat.zero_lt_one | assumption | omega), ?_⟩
        | refine ⟨Or.inl rfl, ?_⟩
        | refine ⟨Or.inr (Or.inl rfl), ?_⟩
        | refine ⟨Or.inr (Or.inr rfl), ?_⟩
        | refine ⟨Or.inr ⟨rfl, (by first | exact Or.inl rfl | exact Or.inr rfl | assumption)⟩, ?_⟩
        | refine ⟨fun h => absurd h (by decide), fun _ => ?_⟩
        | refine ⟨fun _ => ?_, fun h => absurd h (by decide)⟩
        | refine ⟨fun h => ?_, fun h => ?_⟩
        | fail)
      · intro f i k' hfs h41
        rw [← hf f i k' hfs h41]
        simp only [List.mem_cons, List.not_mem_nil, or_false, not_or] at hfs
        simp only [zu]
        rw [if_neg (by omega), if_neg (by omega)]
      · show μ1 4 0 1 + 1 = _
        rw [h1, nI_1]
      · intro i hi
        exact hwk i hi
      · intro i hi
        show (if 28 = 28 ∧ i = (μ1 4 0 1).toNatClampNeg ∧ 0 = 0 then μ1 30 0 (nI (s + j)).toNatClampNeg else μ1 28 0 i) = _
        rw [hcs, hcj, hv]
        by_cases e : i = j
        · rw [if_pos ⟨rfl, e, rfl⟩, e]
        · rw [if_neg (by omega)]
          exact h28 i (by omega)
  have E : ∀ (T s : Nat) (l4 : Option zV) (μ1 : zMu), pRg w T s → T ≤ 20 → zFrm [28, 30, 31] μ μ1 → μ1 4 0 1 = 0 → (∀ i, i < T → μ1 31 0 (w i) = nI i) → (∀ i, i < T → μ1 30 0 i = nI (w i)) → zG S (d + 1) m_Pr_tellRing K 59 [some (zR 4 0), some (zI (nI st)), some (zI (nI (w T))), some (zI (nI T)), l4] [] μ1 := by
    intro T s l4 μ1 hrg hT hf h1 h31 h30
    have hwT := (hw T).1
    have hc : (nI (w T)).toNatClampNeg = w T := nI_clamp (by omega)
    have hne1 : ¬ nI (w T) = -1 := nI_nem1 (by omega)
    have hso : μ1 31 0 (nI (w T)).toNatClampNeg = nI s := by rw [hc, hrg.2.1]; exact h31 s hrg.1
    have hso2 : ¬ μ1 31 0 (nI (w T)).toNatClampNeg = -1 := by rw [hso]; exact nI_nem1 (by have := hrg.1; omega)
    refine zs k_Pr_tellRing rfl ?_
    repeat' (first
      | refine br_f hne1 ?_
      | refine ⟨fun _ => ?_, fun h => absurd h hso2⟩
      | refine L2 T s hrg hT (T - s) 0 _ _ (by omega) hso hf (h1.trans nI_0.symm) h30 (fun i hi => absurd hi (by omega))
      | refine zs k_Pr_tellRing rfl ?_
      | refine ⟨Nat.zero_lt_one, rfl, ?_⟩
      | refine ⟨rfl, ?_⟩
      | refine ⟨⟨Nat.zero_lt_one, rfl⟩, Nat.le_of_ble_eq_true rfl, ?_⟩
      | refine ⟨Nat.le_of_ble_eq_true rfl, Nat.le_of_ble_eq_true rfl, ?_⟩
      | refine ⟨(by first | exact Nat.zero_lt_one | assumption | omega), (by first | assumption | exact vp_in_nI (by omega) (by omega) | (unfold vp_in; decide)), ?_⟩
      | refine ⟨(by first | exact Nat.zero_lt_one | assumption | omega), rfl, ?_⟩
      | refine ⟨⟨(by first | exact Nat.zero_lt_one | assumption | omega), rfl⟩, Nat.le_of_ble_eq_true rfl, ?_⟩
      | refine ⟨(by first | exact Nat.zero_lt_one | assumption | omega), ?_⟩
      | refine ⟨Or.inl rfl, ?_⟩
      | refine ⟨Or.inr (Or.inl rfl), ?_⟩
      | refine ⟨Or.inr (Or.inr rfl), ?_⟩
      | refine ⟨Or.inr ⟨rfl, (by first | exact Or.inl rfl | exact Or.inr rfl | assumption)⟩, ?_⟩
      | refine ⟨fun h => absurd h (by decide), fun _ => ?_⟩
      | refine ⟨fun _ => ?_, fun h => absurd h (by decide)⟩
      | refine ⟨fun h => ?_, fun h => ?_⟩
      | fail)
  have L : ∀ (k t : Nat) (one x : Int32) (l4 : Option zV) (μ1 : zMu), t + k = 20 → one = nI (w t) → x = nI t → (∀ i j, i < j → j < t → w i ≠ w j) → zFrm [28, 30, 31] μ μ1 → μ1 4 0 1 = 0 → (∀ i, i < t → μ1 31 0 (w i) = nI i) → (∀ p, p < 20 → (∀ i, i < t → w i ≠ p) → μ1 31 0 p = -1) → (∀ i, i < t → μ1 30 0 i = nI (w i)) → zG S (d + 1) m_Pr_tellRing K 12 [some (zR 4 0), some (zI (nI st)), some (zI one), some (zI x), l4] [] μ1 := by
    intro k
    induction k with
    | zero =>
      intro t one x l4 μ1 ht ho hx hd hf h1 h31 h31n h30
      subst ho hx
      obtain rfl : t = 20 := by omega
      obtain ⟨s, hs1, hs2⟩ : ∃ s, s < 20 ∧ w s = w 20 := by
        rcases exS (w := w) (t := 20) (w 20) with h | h
        · exact h
        · have := fb_holes0 n 21 w (fun i _ => (hw i).1) (fun i j hij hj => by
            rcases Nat.lt_or_ge j 20 with q | q
            · exact hd i j hij q
            · obtain rfl : j = 20 := by omega
              exact h i hij)
          omega
      refine zs k_Pr_tellRing rfl ?_
      repeat' (first
        | refine br_t (by decide) ?_
        | refine E 20 s _ _ ⟨hs1, hs2.symm, hd⟩ (Nat.le_refl 20) hf h1 h31 h30
        | refine zs k_Pr_tellRing rfl ?_
        | refine ⟨Nat.zero_lt_one, rfl, ?_⟩
        | refine ⟨rfl, ?_⟩
        | refine ⟨⟨Nat.zero_lt_one, rfl⟩, Nat.le_of_ble_eq_true rfl, ?_⟩
        | refine ⟨Nat.le_of_ble_eq_true rfl, Nat.le_of_ble_eq_true rfl, ?_⟩
        | refine ⟨(by first | exact Nat.zero_lt_one | assumption | omega), (by first | assumption | exact vp_in_nI (by omega) (by omega) | (unfold vp_in; decide)), ?_⟩
        | refine ⟨(by first | exact Nat.zero_lt_one | assumption | omega), rfl, ?_⟩
        | refine ⟨⟨(by first | exact Nat.zero_lt_one | assumption | omega), rfl⟩, Nat.le_of_ble_eq_true rfl, ?_⟩
        | refine ⟨(by first | exact Nat.zero_lt_one | assumption | omega), ?_⟩
        | refine ⟨Or.inl rfl, ?_⟩
        | refine ⟨Or.inr (Or.inl rfl), ?_⟩
        | refine ⟨Or.inr (Or.inr rfl), ?_⟩
        | refine ⟨Or.inr ⟨rfl, (by first | exact Or.inl rfl | exact Or.inr rfl | assumption)⟩, ?_⟩
        | refine ⟨fun h => absurd h (by decide), fun _ => ?_⟩
        | refine ⟨fun _ => ?_, fun h => absurd h (by decide)⟩
        | refine ⟨fun h => ?_, fun h => ?_⟩
        | fail)
    | succ k ih =>
      intro t one x l4 μ1 ht ho hx hd hf h1 h31 h31n h30
      subst ho hx
      have hwt := (hw t).1
      have hc : (nI (w t)).toNatClampNeg = w t := nI_clamp (by omega)
      have hct : (nI t).toNatClampNeg = t := nI_clamp (by omega)
      have hne1 : ¬ nI (w t) = -1 := nI_nem1 (by omega)
      have hl20 : ¬ (20 : Int32) ≤ nI t := nI_ge (b := 20) (by omega) (by omega)
      have hvw : vp_in (nI (w t)) 20 := vp_in_nI (by omega) (by omega)
      rcases exS (w := w) (t := t) (w t) with ⟨s, hs1, hs2⟩ | hnew
      · have hso2 : ¬ μ1 31 0 (nI (w t)).toNatClampNeg = -1 := by rw [hc, ← hs2, h31 s hs1]; exact nI_nem1 (by omega)
        refine zs k_Pr_tellRing rfl ?_
        repeat' (first
          | refine br_f hl20 ?_
          | refine br_f hne1 ?_
          | refine ⟨fun _ => ?_, fun h => absurd h hso2⟩
          | refine E t s _ _ ⟨hs1, hs2.symm, hd⟩ (by omega) hf h1 h31 h30
          | refine zs k_Pr_tellRing rfl ?_
          | refine ⟨Nat.zero_lt_one, rfl, ?_⟩
          | refine ⟨rfl, ?_⟩
          | refine ⟨⟨Nat.zero_lt_one, rfl⟩, Nat.le_of_ble_eq_true rfl, ?_⟩
          | refine ⟨Nat.le_of_ble_eq_true rfl, Nat.le_of_ble_eq_true rfl, ?_⟩
          | refine ⟨(by first | exact Nat.zero_lt_one | assumption | omega), (by first | assumption | exact vp_in_nI (by omega) (by omega) | (unfold vp_in; decide)), ?_⟩
          | refine ⟨(by first | exact Nat.zero_lt_one | assumption | omega), rfl, ?_⟩
          | refine ⟨⟨(by first | exact Nat.zero_lt_one | assumption | omega), rfl⟩, Nat.le_of_ble_eq_true rfl, ?_⟩
          | refine ⟨(by first | exact Nat.zero_lt_one | assumption | omega), ?_⟩
          | refine ⟨Or.inl rfl, ?_⟩
          | refine ⟨Or.inr (Or.inl rfl), ?_⟩
          | refine ⟨Or.inr (Or.inr rfl), ?_⟩
          | refine ⟨Or.inr ⟨rfl, (by first | exact Or.inl rfl | exact Or.inr rfl | assumption)⟩, ?_⟩
          | refine ⟨fun h => absurd h (by decide), fun _ => ?_⟩
          | refine ⟨fun _ => ?_, fun h => absurd h (by decide)⟩
          | refine ⟨fun h => ?_, fun h => ?_⟩
          | fail)
      · have hso : μ1 31 0 (nI (w t)).toNatClampNeg = -1 := by rw [hc]; exact h31n (w t) (by omega) hnew
        have hn2 : μ1 1 0 1 = nI n := (hf 1 0 1 (by decide) (by omega)).trans hn
        have hl2 : ∀ μ2 : zMu, (∀ p, μ2 29 0 p = μ1 29 0 p) → cLf μ2 lf := fun μ2 h p hp => by rw [h, hf 29 0 p (by decide) (by omega)]; exact hl p hp
        have hA2 : ∀ μ2 : zMu, (∀ q p, μ2 33 q p = μ1 33 q p) → cLd μ2 A n := fun μ2 h q p h1 h2 h3 => by rw [h, hf 33 q p (by decide) (by omega)]; exact hA q p h1 h2 h3
        have hah : pAh lf A n (w t) = nI (w (t + 1)) := (hw t).2.2
        refine zs k_Pr_tellRing rfl ?_
        repeat' (first
          | refine br_f hl20 ?_
          | refine br_f hne1 ?_
          | refine ⟨fun h => absurd hso h, fun _ => ?_⟩
          | (refine c_Pr_leastAheadOf (n := n) (p := w t) (lf := lf) (A := A) hn2 h20 hwt rfl (hl2 _ (fun _ => rfl)) (hA2 _ (fun _ _ => rfl)) ?_; rw [hah])
          | refine ih (t + 1) _ _ _ _ (by omega) rfl (by exact nI_1 t) ?_ ?_ h1 ?_ ?_ ?_
          | refine zs k_Pr_tellRing rfl ?_
          | refine ⟨Nat.zero_lt_one, rfl, ?_⟩
          | refine ⟨rfl, ?_⟩
          | refine ⟨⟨Nat.zero_lt_one, rfl⟩, Nat.le_of_ble_eq_true rfl, ?_⟩
          | refine ⟨Nat.le_of_ble_eq_true rfl, Nat.le_of_ble_eq_true rfl, ?_⟩
          | refine ⟨(by first | exact Nat.zero_lt_one | assumption | omega), (by first | assumption | exact vp_in_nI (by omega) (by omega) | (unfold vp_in; decide)), ?_⟩
          | refine ⟨(by first | exact Nat.zero_lt_one | assumption | omega), rfl, ?_⟩
          | refine ⟨⟨(by first | exact Nat.zero_lt_one | assumption | omega), rfl⟩, Nat.le_of_ble_eq_true rfl, ?_⟩
          | refine ⟨(by first | exact Nat.zero_lt_one | assumption | omega), ?_⟩
          | refine ⟨Or.inl rfl, ?_⟩
          | refine ⟨Or.inr (Or.inl rfl), ?_⟩
          | refine ⟨Or.inr (Or.inr rfl), ?_⟩
          | refine ⟨Or.inr ⟨rfl, (by first | exact Or.inl rfl | exact Or.inr rfl | assumption)⟩, ?_⟩
          | refine ⟨fun h => absurd h (by decide), fun _ => ?_⟩
          | refine ⟨fun _ => ?_, fun h => absurd h (by decide)⟩
          | refine ⟨fun h => ?_, fun h => ?_⟩
          | fail)
        · intro i j hij hj
          rcases Nat.lt_or_ge j t with q | q
          · exact hd i j hij q
          · obtain rfl : j = t := by omega
            exact hnew i hij
        · intro f i k' hfs h41
          rw [← hf f i k' hfs h41]
          simp only [List.mem_cons, List.not_mem_nil, or_false, not_or] at hfs
          simp only [zu]
          rw [if_neg (by omega), if_neg (by omega)]
        · intro i hi
          rw [hc, hct]
          show (if 31 = 31 ∧ w i = w t ∧ 0 = 0 then nI t else μ1 31 0 (w i)) = nI i
          by_cases e : i = t
          · rw [e, if_pos ⟨rfl, rfl, rfl⟩]
          · rw [if_neg (fun h => hnew i (by omega) h.2.1)]
            exact h31 i (by omega)
        · intro p hp hno
          rw [hc, hct]
          show (if 31 = 31 ∧ p = w t ∧ 0 = 0 then nI t else μ1 31 0 p) = -1
          rw [if_neg (fun h => hno t (by omega) h.2.1.symm)]
          exact h31n p hp (fun i hi => hno i (by omega))
        · intro i hi
          rw [hc, hct]
          show (if 30 = 30 ∧ i = t ∧ 0 = 0 then nI (w t) else μ1 30 0 i) = nI (w i)
          by_cases e : i = t
          · rw [e, if_pos ⟨rfl, rfl, rfl⟩]
          · rw [if_neg (by omega)]
            exact h30 i (by omega)
  have hw0 : w 0 = st := by rw [← hwe]; rfl
  repeat' (first
    | refine c_fill_31 (t := 0) ?_
    | refine L 20 0 _ _ _ _ (by omega) (by rw [hw0]) rfl (fun i j _ hj => absurd hj (by omega)) ?_ hr0 (fun i hi => absurd hi (by omega)) ?_ (fun i hi => absurd hi (by omega))
    | refine zs k_Pr_tellRing rfl ?_
    | refine ⟨Nat.zero_lt_one, rfl, ?_⟩
    | refine ⟨rfl, ?_⟩
    | refine ⟨⟨Nat.zero_lt_one, rfl⟩, Nat.le_of_ble_eq_true rfl, ?_⟩
    | refine ⟨Nat.le_of_ble_eq_true rfl, Nat.le_of_ble_eq_true rfl, ?_⟩
    | refine ⟨(by first | exact Nat.zero_lt_one | assumption | omega), (by first | assumption | exact vp_in_nI (by omega) (by omega) | (unfold vp_in; decide)), ?_⟩
    | refine ⟨(by first | exact Nat.zero_lt_one | assumption | omega), rfl, ?_⟩
    | refine ⟨⟨(by first | exact Nat.zero_lt_one | assumption | omega), rfl⟩, Nat.le_of_ble_eq_true rfl, ?_⟩
    | refine ⟨(by first | exact Nat.zero_lt_one | assumption | omega), ?_⟩
    | refine ⟨Or.inl rfl, ?_⟩
    | refine ⟨Or.inr (Or.inl rfl), ?_⟩
    | refine ⟨Or.inr (Or.inr rfl), ?_⟩
    | refine ⟨Or.inr ⟨rfl, (by first | exact Or.inl rfl | exact Or.inr rfl | assumption)⟩, ?_⟩
    | refine ⟨fun h => absurd h (by decide), fun _ => ?_⟩
    | refine ⟨fun _ => ?_, fun h => absurd h (by decide)⟩
    | refine ⟨fun h => ?_, fun h => ?_⟩
    | fail)
  · intro f i k' hfs h41
    simp only [List.mem_cons, List.not_mem_nil, or_false, not_or] at hfs
    exact if_neg (by omega)
  · intro p hp _
    exact if_pos ⟨rfl, rfl, hp⟩
end
section
/-! PROCESSION: takeNext -/
def oNx (A : Nat → Nat → Bool) (n : Nat) (lf : Nat → Bool) : Nat := if pUn lf A n = -1 then (pFst lf n).toNatClampNeg else (pUn lf A n).toNatClampNeg
def zFr6 (μ μ' : zMu) : Prop := ∀ f i k, f ∉ [4, 27, 28, 29, 30, 31] → μ' f i k = μ f i k
def oRing (lf : Nat → Bool) (A : Nat → Nat → Bool) (n nx : Nat) (μ μ' : zMu) : Prop := (¬ (pUn lf A n = -1 ∧ μ 4 0 1 = 0) ∧ μ' 4 0 1 = μ 4 0 1 ∧ ∀ k, μ' 28 0 k = μ 28 0 k) ∨ ((pUn lf A n = -1 ∧ μ 4 0 1 = 0) ∧ ∃ T s, pRg (pWk lf A n nx) T s ∧ T ≤ 20 ∧ μ' 4 0 1 = nI (T - s) ∧ ∀ k, k < T - s → μ' 28 0 k = nI (pWk lf A n nx (s + k)))
theorem oNx_in {A : Nat → Nat → Bool} {n : Nat} {lf : Nat → Bool} (h20 : n ≤ 20) (hne : ∃ p, p < n ∧ lf p = true) : oNx A n lf < n ∧ lf (oNx A n lf) = true ∧ (pUn lf A n = -1 → pFst lf n = nI (oNx A n lf)) ∧ (¬ pUn lf A n = -1 → pUn lf A n = nI (oNx A n lf)) := by
  unfold oNx
  by_cases hu : pUn lf A n = -1
  · rw [if_pos hu]
    rcases pFst_in (P := lf) (n := n) (by omega) with h | ⟨r, h1, h2, h3, -⟩
    · obtain ⟨p, hp, hlp⟩ := hne
      rw [pFst_m1 (by omega) h p hp] at hlp
      cases hlp
    · rw [h2, nI_clamp (by omega)]
      exact ⟨h1, h3, fun _ => rfl, fun h => absurd hu h⟩
  · rw [if_neg hu]
    rcases pFst_in (P := fun p => lf p && decide (pAh lf A n p = -1)) (n := n) (by omega) with h | ⟨r, h1, h2, h3, -⟩
    · exact absurd h hu
    · have e : pUn lf A n = nI r := h2
      rw [e, nI_clamp (by omega)]
      simp only [Bool.and_eq_true] at h3
      exact ⟨h1, h3.1, fun h => absurd h (nI_nem1 (by omega)), fun _ => rfl⟩
set_option maxHeartbeats 4000000 in
theorem c_Pr_takeNext {d n m : Nat} {μ : zMu} {lf : Nat → Bool} {A : Nat → Nat → Bool} {K : Option zV → zMu → Prop} (hn : μ 1 0 1 = nI n) (h20 : n ≤ 20) (hl : cLf μ lf) (hA : cLd μ A n) (hne : ∃ p, p < n ∧ lf p = true) (hm : μ 4 0 0 = nI m) (hm20 : m < 20)
    (hK : ∀ μ' : zMu, zFr6 μ μ' → cLf μ' (fun p => lf p && decide (p ≠ oNx A n lf)) → μ' 4 0 0 = nI (m + 1) → (∀ k, k < m → μ' 27 0 k = μ 27 0 k) → μ' 27 0 m = nI (oNx A n lf) → oRing lf A n (oNx A n lf) μ μ' → K none μ') : Ct (d + 2) m_Pr_takeNext [zR 4 0] μ K := by
  refine zmeet rfl (Nat.le_of_ble_eq_true rfl) (fun S => ?_)
  obtain ⟨hx1, hx2, hx3, hx4⟩ := oNx_in (A := A) h20 hne
  generalize oNx A n lf = nx at hK hx1 hx2 hx3 hx4
  have hc : (nI nx).toNatClampNeg = nx := nI_clamp (by omega)
  have tail : ∀ (l1 : Int32) (μ1 : zMu), l1 = nI nx → zFrm [28, 30, 31] μ μ1 → oRing lf A n nx μ μ1 → zG S (d + 2) m_Pr_takeNext K 33 [some (zR 4 0), some (zI l1)] [] μ1 := by
    intro l1 μ1 e1 hf hor
    subst e1
    have h40 : μ1 4 0 0 = nI m := (hf 4 0 0 (by decide) (by omega)).trans hm
    have hcm : (μ1 4 0 0).toNatClampNeg = m := by rw [h40]; exact nI_clamp (by omega)
    have hvm : vp_in (μ1 4 0 0) 20 := by rw [h40]; exact vp_in_nI (by omega) (by omega)
    refine zs k_Pr_takeNext rfl ?_
    repeat' (first
      | refine hK _ ?_ ?_ ?_ ?_ ?_ ?_
      | refine zs k_Pr_takeNext rfl ?_
      | refine ⟨Nat.zero_lt_one, rfl, ?_⟩
      | refine ⟨rfl, ?_⟩
      | refine ⟨⟨Nat.zero_lt_one, rfl⟩, Nat.le_of_ble_eq_true rfl, ?_⟩
      | refine ⟨Nat.le_of_ble_eq_true rfl, Nat.le_of_ble_eq_true rfl, ?_⟩
      | refine ⟨(by first | exact Nat.zero_lt_one | assumption | omega), (by first | assumption | exact vp_in_nI (by omega) (by omega) | (unfold vp_in; decide)), ?_⟩
      | refine ⟨(by first | exact Nat.zero_lt_one | assumption | omega), rfl, ?_⟩
      | refine ⟨⟨(by first | exact Nat.zero_lt_one | assumption | omega), rfl⟩, Nat.le_of_ble_eq_true rfl, ?_⟩
      | refine ⟨(by first | exact Nat.zero_lt_one | assumption | omega), ?_⟩
      | refine ⟨Or.inl rfl, ?_⟩
      | refine ⟨Or.inr (Or.inl rfl), ?_⟩
      | refine ⟨Or.inr (Or.inr rfl), ?_⟩
      | refine ⟨Or.inr ⟨rfl, (by first | exact Or.inl rfl | exact Or.inr rfl | assumption)⟩, ?_⟩
      | refine ⟨fun h => absurd h (by decide), fun _ => ?_⟩
      | refine ⟨fun _ => ?_, fun h => absurd h (by decide)⟩
      | refine ⟨fun h => ?_, fun h => ?_⟩
      | fail)
    · intro f i k hfs
      simp only [List.mem_cons, List.not_mem_nil, or_false, not_or] at hfs
      rw [← hf f i k (by simp only [List.mem_cons, List.not_mem_nil, or_false, not_or]; omega) (by omega)]
      simp only [zu]
      rw [if_neg (by omega), if_neg (by omega), if_neg (by omega)]
    · intro p hp
      rw [hc]
      show (if 29 = 29 ∧ p = nx ∧ 0 = 0 then vp_nar .boolean 0 else μ1 29 0 p) = _
      by_cases e : p = nx
      · rw [if_pos ⟨rfl, e, rfl⟩]
        simp [e]
        rfl
      · rw [if_neg (by omega), hf 29 0 p (by decide) (by omega), hl p hp]
        simp [e]
    · show μ1 4 0 0 + 1 = _
      rw [h40, nI_1]
    · intro k hk
      exact (if_neg (show ¬ (27 = 27 ∧ k = (μ1 4 0 0).toNatClampNeg ∧ 0 = 0) by omega)).trans (hf 27 0 k (by decide) (by omega))
    · exact if_pos (show 27 = 27 ∧ m = (μ1 4 0 0).toNatClampNeg ∧ 0 = 0 from ⟨rfl, hcm.symm, rfl⟩)
    · exact hor
  by_cases hu : pUn lf A n = -1
  · have hpl := hx3 hu
    have hpn : ¬ pFst lf n = -1 := by rw [hpl]; exact nI_nem1 (by omega)
    have hall : ∀ p, p < n → lf p = true → ¬ pAh lf A n p = -1 := fun p hp hlp hah => by
      have := pFst_m1 (P := fun p => lf p && decide (pAh lf A n p = -1)) (n := n) (by omega) hu p hp
      simp [hlp, hah] at this
    by_cases hr0 : μ 4 0 1 = 0
    · skip
      repeat' (first
        | refine c_Pr_leastUnled hn h20 hl hA ?_
        | refine c_Pr_leastLeft hn h20 hl ?_
        | refine ⟨fun h => absurd hu h, fun _ => ?_⟩
        | refine ⟨fun _ => ?_, fun h => absurd h hpn⟩
        | refine ⟨fun h => absurd hr0 h, fun _ => ?_⟩
        | refine c_Pr_tellRing (lf := lf) (A := A) (n := n) (st := nx) hn h20 hx1 hpl hx2 hl hA hall hr0 (fun T s μ' hrg hT hf h41 h28 => ?_)
        | refine tail _ _ hpl hf (Or.inr ⟨⟨hu, hr0⟩, T, s, hrg, hT, h41, h28⟩)
        | refine zs k_Pr_takeNext rfl ?_
        | refine ⟨Nat.zero_lt_one, rfl, ?_⟩
        | refine ⟨rfl, ?_⟩
        | refine ⟨⟨Nat.zero_lt_one, rfl⟩, Nat.le_of_ble_eq_true rfl, ?_⟩
        | refine ⟨Nat.le_of_ble_eq_true rfl, Nat.le_of_ble_eq_true rfl, ?_⟩
        | refine ⟨(by first | exact Nat.zero_lt_one | assumption | omega), (by first | assumption | exact vp_in_nI (by omega) (by omega) | (unfold vp_in; decide)), ?_⟩
        | refine ⟨(by first | exact Nat.zero_lt_one | assumption | omega), rfl, ?_⟩
        | refine ⟨⟨(by first | exact Nat.zero_lt_one | assumption | omega), rfl⟩, Nat.le_of_ble_eq_true rfl, ?_⟩
        | refine ⟨(by first | exact Nat.zero_lt_one | assumption | omega), ?_⟩
        | refine ⟨Or.inl rfl, ?_⟩
        | refine ⟨Or.inr (Or.inl rfl), ?_⟩
        | refine ⟨Or.inr (Or.inr rfl), ?_⟩
        | refine ⟨Or.inr ⟨rfl, (by first | exact Or.inl rfl | exact Or.inr rfl | assumption)⟩, ?_⟩
        | refine ⟨fun h => absurd h (by decide), fun _ => ?_⟩
        | refine ⟨fun _ => ?_, fun h => absurd h (by decide)⟩
        | refine ⟨fun h => ?_, fun h => ?_⟩
        | fail)
    · skip
      repeat' (first
        | refine tail _ _ hpl (fun _ _ _ _ _ => rfl) (Or.inl ⟨fun h => hr0 h.2, rfl, fun _ => rfl⟩)
        | refine c_Pr_leastUnled hn h20 hl hA ?_
        | refine c_Pr_leastLeft hn h20 hl ?_
        | refine ⟨fun h => absurd hu h, fun _ => ?_⟩
        | refine ⟨fun _ => ?_, fun h => absurd h hpn⟩
        | refine ⟨fun _ => ?_, fun h => absurd h hr0⟩
        | refine zs k_Pr_takeNext rfl ?_
        | refine ⟨Nat.zero_lt_one, rfl, ?_⟩
        | refine ⟨rfl, ?_⟩
        | refine ⟨⟨Nat.zero_lt_one, rfl⟩, Nat.le_of_ble_eq_true rfl, ?_⟩
        | refine ⟨Nat.le_of_ble_eq_true rfl, Nat.le_of_ble_eq_true rfl, ?_⟩
        | refine ⟨(by first | exact Nat.zero_lt_one | assumption | omega), (by first | assumption | exact vp_in_nI (by omega) (by omega) | (unfold vp_in; decide)), ?_⟩
        | refine ⟨(by first | exact Nat.zero_lt_one | assumption | omega), rfl, ?_⟩
        | refine ⟨⟨(by first | exact Nat.zero_lt_one | assumption | omega), rfl⟩, Nat.le_of_ble_eq_true rfl, ?_⟩
        | refine ⟨(by first | exact Nat.zero_lt_one | assumption | omega), ?_⟩
        | refine ⟨Or.inl rfl, ?_⟩
        | refine ⟨Or.inr (Or.inl rfl), ?_⟩
        | refine ⟨Or.inr (Or.inr rfl), ?_⟩
        | refine ⟨Or.inr ⟨rfl, (by first | exact Or.inl rfl | exact Or.inr rfl | assumption)⟩, ?_⟩
        | refine ⟨fun h => absurd h (by decide), fun _ => ?_⟩
        | refine ⟨fun _ => ?_, fun h => absurd h (by decide)⟩
        | refine ⟨fun h => ?_, fun h => ?_⟩
        | fail)
  · have hpl := hx4 hu
    repeat' (first
      | refine tail _ _ hpl (fun _ _ _ _ _ => rfl) (Or.inl ⟨fun h => hu h.1, rfl, fun _ => rfl⟩)
      | refine c_Pr_leastUnled hn h20 hl hA ?_
      | refine ⟨fun _ => ?_, fun h => absurd h hu⟩
      | refine zs k_Pr_takeNext rfl ?_
      | refine ⟨Nat.zero_lt_one, rfl, ?_⟩
      | refine ⟨rfl, ?_⟩
      | refine ⟨⟨Nat.zero_lt_one, rfl⟩, Nat.le_of_ble_eq_true rfl, ?_⟩
      | refine ⟨Nat.le_of_ble_eq_true rfl, Nat.le_of_ble_eq_true rfl, ?_⟩
      | refine ⟨(by first | exact Nat.zero_lt_one | assumption | omega), (by first | assumption | exact vp_in_nI (by omega) (by omega) | (unfold vp_in; decide)), ?_⟩
      | refine ⟨(by first | exact Nat.zero_lt_one | assumption | omega), rfl, ?_⟩
      | refine ⟨⟨(by first | exact Nat.zero_lt_one | assumption | omega), rfl⟩, Nat.le_of_ble_eq_true rfl, ?_⟩
      | refine ⟨(by first | exact Nat.zero_lt_one | assumption | omega), ?_⟩
      | refine ⟨Or.inl rfl, ?_⟩
      | refine ⟨Or.inr (Or.inl rfl), ?_⟩
      | refine ⟨Or.inr (Or.inr rfl), ?_⟩
      | refine ⟨Or.inr ⟨rfl, (by first | exact Or.inl rfl | exact Or.inr rfl | assumption)⟩, ?_⟩
      | refine ⟨fun h => absurd h (by decide), fun _ => ?_⟩
      | refine ⟨fun _ => ?_, fun h => absurd h (by decide)⟩
      | refine ⟨fun h => ?_, fun h => ?_⟩
      | fail)
end
section
/-! who is ahead turns with the two -/
theorem i32_neg0 (x : Int32) : -x = 0 ↔ x = 0 := by grind
theorem pHand_anti {hx hy : Nat → Int32} {x y : Int32} (hne : ¬ x = y) : ∀ n, pHand hx hy y x n = -pHand hx hy x y n
  | 0 => by
    show (0 : Int32) = -0
    decide
  | n + 1 => by
    have ih := pHand_anti (hx := hx) (hy := hy) hne n
    simp only [pHand]
    grind
theorem pV_anti (F : Nat → Nat → Int32) (u : rU) (o day : Int32) (x y : Nat) : pV F u o day y x = -pV F u o day x y := by
  simp only [pV]
  generalize F x u.2.1.toNatClampNeg = a
  generalize F y u.2.1.toNatClampNeg = b
  generalize pHolds F u x y = p
  generalize pHolds F u y x = q
  generalize u.2.2.1 = dn
  have hC : (a = b ∨ ¬ (u.2.2.2.2.1 ≤ day ∧ day < u.2.2.2.2.2.1 ∧ (u.1 = -1 ∨ u.1 = o)) ∨ (p = false ∧ q = false)) ↔ (b = a ∨ ¬ (u.2.2.2.2.1 ≤ day ∧ day < u.2.2.2.2.2.1 ∧ (u.1 = -1 ∨ u.1 = o)) ∨ (q = false ∧ p = false)) := by
    constructor
    · rintro (h | h | h)
      · exact Or.inl h.symm
      · exact Or.inr (Or.inl h)
      · exact Or.inr (Or.inr ⟨h.2, h.1⟩)
    · rintro (h | h | h)
      · exact Or.inl h.symm
      · exact Or.inr (Or.inl h)
      · exact Or.inr (Or.inr ⟨h.2, h.1⟩)
  by_cases h : (a = b ∨ ¬ (u.2.2.2.2.1 ≤ day ∧ day < u.2.2.2.2.2.1 ∧ (u.1 = -1 ∨ u.1 = o)) ∨ (p = false ∧ q = false))
  · rw [if_pos h, if_pos (hC.mp h)]
    decide
  · have hab : ¬ a = b := fun e => h (Or.inl e)
    rw [if_neg h, if_neg (fun g => h (hC.mpr g))]
    clear h hC
    by_cases hd : dn = 1
    · by_cases hlt : a < b
      · have h2 : ¬ b < a := by grind
        have e1 : (a < b ↔ dn = 1) := ⟨fun _ => hd, fun _ => hlt⟩
        have e2 : ¬ (b < a ↔ dn = 1) := fun e => h2 (e.mpr hd)
        rw [if_pos e1, if_neg e2]
        decide
      · have h2 : b < a := by grind
        have e1 : ¬ (a < b ↔ dn = 1) := fun e => hlt (e.mpr hd)
        have e2 : (b < a ↔ dn = 1) := ⟨fun _ => hd, fun _ => h2⟩
        rw [if_neg e1, if_pos e2]
    · by_cases hlt : a < b
      · have h2 : ¬ b < a := by grind
        have e1 : ¬ (a < b ↔ dn = 1) := fun e => hd (e.mp hlt)
        have e2 : (b < a ↔ dn = 1) := ⟨fun e => absurd e h2, fun e => absurd e hd⟩
        rw [if_neg e1, if_pos e2]
      · have h2 : b < a := by grind
        have e1 : (a < b ↔ dn = 1) := ⟨fun e => absurd e hlt, fun e => absurd e hd⟩
        have e2 : ¬ (b < a ↔ dn = 1) := fun e => hd (e.mp h2)
        rw [if_pos e1, if_neg e2]
        decide
theorem pGo_cong {V V' oc : Nat → Int32} : ∀ {n : Nat}, (∀ r, r < n → (V' r = 0 ↔ V r = 0)) → pGo V' oc n = pGo V oc n
  | 0, _ => rfl
  | n + 1, h => by
    have ih := pGo_cong (oc := oc) (n := n) (fun r hr => h r (by omega))
    have hn := h n (by omega)
    simp only [pGo, ih]
    by_cases hv : V n = 0
    · rw [if_pos hv, if_pos (hn.mpr hv)]
    · rw [if_neg hv, if_neg (fun e => hv (hn.mp e))]
theorem pLd_anti {h h' : Int32} {V V' oc : Nat → Int32} {n : Nat} (hh : h' = -h) (hV : ∀ r, V' r = -V r) : pLd h' V' oc n = -pLd h V oc n := by
  have e := pGo_cong (V := V) (V' := V') (oc := oc) (n := n) (fun r _ => by rw [hV]; exact i32_neg0 _)
  have hv := hV (pGo V oc n).toNatClampNeg
  simp only [pLd, e, hh, hv]
  grind
theorem pLd_cases {h : Int32} {V oc : Nat → Int32} {n : Nat} (hh : h = 0 ∨ h = 1 ∨ h = -1) (hV : ∀ r, V r = 0 ∨ V r = 1 ∨ V r = -1) : pLd h V oc n = 0 ∨ pLd h V oc n = 1 ∨ pLd h V oc n = -1 := by
  unfold pLd
  split
  · exact hh
  · split
    · exact Or.inl rfl
    · exact hV _
/-- who is ahead, by the class's rows -/
def cLdr (μ : zMu) (o day : Int32) (nr nh x y : Nat) : Int32 := pLd (pHand (μ 20 0) (μ 21 0) (nI x) (nI y) nh) (cV μ o day x y) (cOc μ) nr
theorem cLdr_anti {μ : zMu} {o day : Int32} {nr nh x y : Nat} (hx : x < 20) (hy : y < 20) (hne : x ≠ y) : cLdr μ o day nr nh y x = -cLdr μ o day nr nh x y := by
  refine pLd_anti (pHand_anti (fun e => hne ((nI_eq (by omega) (by omega)).mp e)) nh) (fun r => ?_)
  exact pV_anti _ _ _ _ _ _
/-- rows that the leader looks at -/
def zLk (μ μ' : zMu) : Prop := ∀ f, f ∈ [1, 3, 8, 10, 17, 20, 21, 22, 23, 24, 25, 26] → μ' f = μ f
theorem zLk_rok {μ μ' : zMu} {r : Nat} (h : zLk μ μ') (hr : cRok μ r) : cRok μ' r := by
  unfold cRok
  rw [h 8 (by decide), h 24 (by decide), h 22 (by decide)]
  exact hr
theorem zLk_ldr {μ μ' : zMu} (h : zLk μ μ') (o day : Int32) (nr nh x y : Nat) : cLdr μ' o day nr nh x y = cLdr μ o day nr nh x y := by
  unfold cLdr cV cOc cF cRu
  rw [h 8 (by decide), h 24 (by decide), h 22 (by decide), h 23 (by decide), h 25 (by decide), h 26 (by decide), h 17 (by decide), h 20 (by decide), h 21 (by decide)]
end
section
/-! PROCESSION: form -/
def oLf (A : Nat → Nat → Bool) (n : Nat) (lf0 : Nat → Bool) : Nat → Nat → Bool
  | 0 => lf0
  | k + 1 => fun p => oLf A n lf0 k p && decide (p ≠ oNx A n (oLf A n lf0 k))
def oN (A : Nat → Nat → Bool) (n : Nat) (lf0 : Nat → Bool) (k : Nat) : Nat := oNx A n (oLf A n lf0 k)
/-- the ring told in the first k places: how long, who -/
def oRk (A : Nat → Nat → Bool) (n : Nat) (lf0 : Nat → Bool) : Nat → Nat → (Nat → Nat) → Prop
  | 0, len, _ => len = 0
  | k + 1, len, fn => ∃ len0 fn0, oRk A n lf0 k len0 fn0 ∧ ((¬ (pUn (oLf A n lf0 k) A n = -1 ∧ len0 = 0) ∧ len = len0 ∧ fn = fn0) ∨ ((pUn (oLf A n lf0 k) A n = -1 ∧ len0 = 0) ∧ ∃ T s, pRg (pWk (oLf A n lf0 k) A n (oN A n lf0 k)) T s ∧ len = T - s ∧ fn = fun i => pWk (oLf A n lf0 k) A n (oN A n lf0 k) (s + i)))
theorem pCt_rm {lf : Nat → Bool} {x : Nat} (hx : lf x = true) : ∀ n, pCt (fun p => lf p && decide (p ≠ x)) n + (if x < n then 1 else 0) = pCt lf n
  | 0 => rfl
  | n + 1 => by
    have ih := pCt_rm hx n
    show pCt (fun p => lf p && decide (p ≠ x)) n + (if (lf n && decide (n ≠ x)) = true then 1 else 0) + (if x < n + 1 then 1 else 0) = pCt lf n + (if lf n = true then 1 else 0)
    by_cases e : n = x
    · subst e
      rw [if_neg (Nat.lt_irrefl n)] at ih
      have e3 : (lf n && decide (n ≠ n)) = false := by simp
      rw [e3, hx, if_pos (Nat.lt_succ_self n)]
      show pCt (fun p => lf p && decide (p ≠ n)) n + 0 + 1 = pCt lf n + 1
      omega
    · have e2 : (lf n && decide (n ≠ x)) = lf n := by simp [e]
      rw [e2]
      by_cases h : x < n
      · rw [if_pos h] at ih
        rw [if_pos (show x < n + 1 by omega)]
        omega
      · rw [if_neg h] at ih
        rw [if_neg (show ¬ x < n + 1 by omega)]
        omega
theorem pCt_pos {lf : Nat → Bool} : ∀ {n : Nat}, 0 < pCt lf n → ∃ p, p < n ∧ lf p = true
  | 0, h => absurd h (Nat.lt_irrefl 0)
  | n + 1, h => by
    cases hl : lf n with
    | true => exact ⟨n, by omega, hl⟩
    | false =>
      rw [pCt, hl] at h
      obtain ⟨p, h1, h2⟩ := pCt_pos (n := n) (by simpa using h)
      exact ⟨p, by omega, h2⟩
theorem oLf_ct {A : Nat → Nat → Bool} {n : Nat} {lf0 : Nat → Bool} (h20 : n ≤ 20) : ∀ k, k ≤ pCt lf0 n → pCt (oLf A n lf0 k) n + k = pCt lf0 n
  | 0, _ => rfl
  | k + 1, h => by
    have ih := oLf_ct (A := A) (lf0 := lf0) h20 k (by omega)
    obtain ⟨h1, h2, -, -⟩ := oNx_in (A := A) h20 (pCt_pos (lf := oLf A n lf0 k) (n := n) (by omega))
    have := pCt_rm h2 n
    rw [if_pos h1] at this
    show pCt (fun p => oLf A n lf0 k p && decide (p ≠ oNx A n (oLf A n lf0 k))) n + (k + 1) = _
    omega
def cLf0 (μ : zMu) (n p : Nat) : Bool := decide (p < n) && decide (μ 10 0 p = 1)
def cLdm (μ : zMu) (o day : Int32) (nr nh n a b : Nat) : Int32 := if cLf0 μ n a && cLf0 μ n b then cLdr μ o day nr nh a b else 0
def cAd (μ : zMu) (o day : Int32) (nr nh n q p : Nat) : Bool := decide (cLdm μ o day nr nh n q p = 1)
theorem cLdm_anti {μ : zMu} {o day : Int32} {nr nh n x y : Nat} (hx : x < 20) (hy : y < 20) (hne : x ≠ y) : cLdm μ o day nr nh n y x = -cLdm μ o day nr nh n x y := by
  unfold cLdm
  rw [Bool.and_comm]
  split
  · exact cLdr_anti hx hy hne
  · decide
theorem cPres_ct {μ : zMu} {n : Nat} (hp : ∀ p, p < n → μ 10 0 p = 0 ∨ μ 10 0 p = 1) : ∀ i, i ≤ n → cPres μ i = nI (pCt (cLf0 μ n) i)
  | 0, _ => rfl
  | i + 1, h => by
    rw [cPres, cPres_ct hp i (by omega), pCt]
    rcases hp i (by omega) with e | e
    · have : cLf0 μ n i = false := by simp [cLf0, e]
      rw [this, e]
      simp
    · have : cLf0 μ n i = true := by simp [cLf0, e]; omega
      rw [this, e]
      exact nI_1 _
def zFr7 (μ μ' : zMu) : Prop := ∀ f, f ∉ [4, 27, 28, 29, 30, 31, 33] → μ' f = μ f
theorem zFr7_lk {μ μ' : zMu} (h : zFr7 μ μ') : zLk μ μ' := fun f hf => h f (by simp only [List.mem_cons, List.not_mem_nil, or_false, not_or] at *; omega)
/-- the order is there -/
def cOrd (μ μ' : zMu) (A : Nat → Nat → Bool) (n : Nat) (lf0 : Nat → Bool) (m : Nat) : Prop := μ' 4 0 0 = nI m ∧ (∀ k, k < m → μ' 27 0 k = nI (oN A n lf0 k)) ∧ ∃ len fn, oRk A n lf0 m len fn ∧ len ≤ 20 ∧ μ' 4 0 1 = nI len ∧ ∀ k, k < len → μ' 28 0 k = nI (fn k)
set_option maxHeartbeats 8000000 in
theorem c_Pr_form {d n nr nh : Nat} {μ : zMu} {o day : Int32} {K : Option zV → zMu → Prop} (hn : μ 1 0 1 = nI n) (h20 : n ≤ 20) (hr : μ 3 0 0 = nI nr) (h16 : nr ≤ 16) (hh : μ 3 0 1 = nI nh) (hh20 : nh ≤ 20) (hok : ∀ r, r < nr → cRok μ r) (hp : ∀ p, p < n → μ 10 0 p = 0 ∨ μ 10 0 p = 1)
    (hK : ∀ μ' : zMu, zFr7 μ μ' → cOrd μ μ' (cAd μ o day nr nh n) n (cLf0 μ n) (pCt (cLf0 μ n) n) → K none μ') : Ct (d + 5) m_Pr_form [zR 4 0, zI o, zI day] μ K := by
  refine zmeet rfl (Nat.le_of_ble_eq_true rfl) (fun S => ?_)
  have hm20 : pCt (cLf0 μ n) n ≤ n := pCt_le _ _
  generalize hA : cAd μ o day nr nh n = A at hK
  generalize hlf : cLf0 μ n = lf0 at hK hm20
  generalize hm : pCt lf0 n = m at hK hm20
  -- places
  have L3 : ∀ (k i : Nat) (x : Int32) (μ1 : zMu), i + k = m → x = nI i → zFr7 μ μ1 → cLf μ1 (oLf A n lf0 i) → cLd μ1 A n → cOrd μ μ1 A n lf0 i → zG S (d + 5) m_Pr_form K 175 [some (zR 4 0), some (zI o), some (zI day), some (zI (nI m)), some (zI x)] [] μ1 := by
    intro k
    induction k with
    | zero =>
      intro i x μ1 hi hx hf hl hd ho
      subst hx
      obtain rfl : i = m := by omega
      have hle : nI i ≤ nI i := nI_le (Nat.le_refl i) (by omega)
      refine zs k_Pr_form rfl ?_
      repeat' (first
        | refine br_t hle ?_
        | exact hK _ hf ho
        | refine zs k_Pr_form rfl ?_
        | refine ⟨Nat.zero_lt_one, rfl, ?_⟩
        | refine ⟨rfl, ?_⟩
        | refine ⟨⟨Nat.zero_lt_one, rfl⟩, Nat.le_of_ble_eq_true rfl, ?_⟩
        | refine ⟨Nat.le_of_ble_eq_true rfl, Nat.le_of_ble_eq_true rfl, ?_⟩
        | refine ⟨(by first | exact Nat.zero_lt_one | assumption | omega), (by first | assumption | exact vp_in_nI (by omega) (by omega) | (unfold vp_in; decide)), ?_⟩
        | refine ⟨(by first | exact Nat.zero_lt_one | assumption | omega), rfl, ?_⟩
        | refine ⟨⟨(by first | exact Nat.zero_lt_one | assumption | omega), rfl⟩, Nat.le_of_ble_eq_true rfl, ?_⟩
        | refine ⟨(by first | exact Nat.zero_lt_one | assumption | omega), ?_⟩
        | refine ⟨Or.inl rfl, ?_⟩
        | refine ⟨Or.inr (Or.inl rfl), ?_⟩
        | refine ⟨Or.inr (Or.inr rfl), ?_⟩
        | refine ⟨Or.inr ⟨rfl, (by first | exact Or.inl rfl | exact Or.inr rfl | assumption)⟩, ?_⟩
        | refine ⟨fun h => absurd h (by decide), fun _ => ?_⟩
        | refine ⟨fun _ => ?_, fun h => absurd h (by decide)⟩
        | refine ⟨fun h => ?_, fun h => ?_⟩
        | fail)
    | succ k ih =>
      intro i x μ1 hi hx hf hl hd ho
      subst hx
      have hlt : ¬ nI m ≤ nI i := nI_ge (by omega) (by omega)
      have hct := oLf_ct (A := A) (lf0 := lf0) h20 i (by omega)
      have hne := pCt_pos (lf := oLf A n lf0 i) (n := n) (by omega)
      have hn1 : μ1 1 0 1 = nI n := by rw [hf 1 (by decide)]; exact hn
      obtain ⟨ho1, ho2, len, fn, ho3, ho4, ho5, ho6⟩ := ho
      refine zs k_Pr_form rfl ?_
      repeat' (first
        | refine br_f hlt ?_
        | refine c_Pr_takeNext (lf := oLf A n lf0 i) (A := A) hn1 h20 hl hd hne ho1 (by omega) (fun μ' g1 g2 g3 g4 g5 g6 => ?_)
        | refine ih (i + 1) _ _ (by omega) (by exact nI_1 i) ?_ g2 ?_ ?_
        | refine zs k_Pr_form rfl ?_
        | refine ⟨Nat.zero_lt_one, rfl, ?_⟩
        | refine ⟨rfl, ?_⟩
        | refine ⟨⟨Nat.zero_lt_one, rfl⟩, Nat.le_of_ble_eq_true rfl, ?_⟩
        | refine ⟨Nat.le_of_ble_eq_true rfl, Nat.le_of_ble_eq_true rfl, ?_⟩
        | refine ⟨(by first | exact Nat.zero_lt_one | assumption | omega), (by first | assumption | exact vp_in_nI (by omega) (by omega) | (unfold vp_in; decide)), ?_⟩
        | refine ⟨(by first | exact Nat.zero_lt_one | assumption | omega), rfl, ?_⟩
        | refine ⟨⟨(by first | exact Nat.zero_lt_one | assumption | omega), rfl⟩, Nat.le_of_ble_eq_true rfl, ?_⟩
        | refine ⟨(by first | exact Nat.zero_lt_one | assumption | omega), ?_⟩
        | refine ⟨Or.inl rfl, ?_⟩
        | refine ⟨Or.inr (Or.inl rfl), ?_⟩
        | refine ⟨Or.inr (Or.inr rfl), ?_⟩
        | refine ⟨Or.inr ⟨rfl, (by first | exact Or.inl rfl | exact Or.inr rfl | assumption)⟩, ?_⟩
        | refine ⟨fun h => absurd h (by decide), fun _ => ?_⟩
        | refine ⟨fun _ => ?_, fun h => absurd h (by decide)⟩
        | refine ⟨fun h => ?_, fun h => ?_⟩
        | fail)
      · intro f hfs
        rw [← hf f hfs]
        funext a b
        exact g1 f a b (by simp only [List.mem_cons, List.not_mem_nil, or_false, not_or] at *; omega)
      · intro q p h1 h2 h3
        rw [g1 33 q p (by decide)]
        exact hd q p h1 h2 h3
      · refine ⟨fun j hj => ?_, ?_⟩
        · rcases Nat.lt_or_ge j i with q | q
          · rw [g4 j q]
            exact ho2 j q
          · obtain rfl : j = i := by omega
            exact g5
        · rcases g6 with ⟨u1, u2, u3⟩ | ⟨⟨u1, u2⟩, T, s, u3, u4, u5, u6⟩
          · refine ⟨len, fn, ⟨len, fn, ho3, Or.inl ⟨fun h => u1 ⟨h.1, by rw [ho5, h.2]; exact nI_0⟩, rfl, rfl⟩⟩, ho4, by rw [u2]; exact ho5, fun j hj => by rw [u3]; exact ho6 j hj⟩
          · have hl0 : len = 0 := by
              rcases Nat.eq_zero_or_pos len with q | q
              · exact q
              · exact absurd (ho5.symm.trans u2) (nI_ne0 q (by omega))
            exact ⟨T - s, _, ⟨len, fn, ho3, Or.inr ⟨⟨u1, hl0⟩, T, s, u3, rfl, rfl⟩⟩, by omega, u5, u6⟩
  -- who leads whom
  have L2 : ∀ (k p : Nat) (x : Int32) (l4 : Option zV) (μ1 : zMu), p + k = n → x = nI p → zFr7 μ μ1 → cLf μ1 lf0 → μ1 4 0 0 = 0 → μ1 4 0 1 = 0 → (∀ a b, a < n → b < n → a ≠ b → (a < p ∨ b < p) → μ1 33 a b = cLdm μ o day nr nh n a b) → zG S (d + 5) m_Pr_form K 61 [some (zR 4 0), some (zI o), some (zI day), some (zI x), l4] [] μ1 := by
    intro k
    induction k with
    | zero =>
      intro p x l4 μ1 hpk hx hf hl h40 h41 hM
      subst hx
      obtain rfl : p = n := by omega
      have hn1 : μ1 1 0 1 = nI p := by rw [hf 1 (by decide)]; exact hn
      have hpr : cPres μ1 p = nI m := by
        have e : ∀ i, cPres μ1 i = cPres μ i := fun i => by
          induction i with
          | zero => rfl
          | succ i ihi => rw [cPres, cPres, ihi, hf 10 (by decide)]
        rw [e, cPres_ct hp p (Nat.le_refl p), hlf, hm]
      have hle : nI p ≤ nI p := nI_le (Nat.le_refl p) (by omega)
      refine zs k_Pr_form rfl ?_
      repeat' (first
        | (refine c_Ro_countPresent hn1 h20 ?_; rw [hpr])
        | refine L3 m 0 _ _ (by omega) rfl hf hl ?_ ⟨h40, fun k hk => absurd hk (by omega), 0, fun _ => 0, rfl, by omega, h41, fun k hk => absurd hk (by omega)⟩
        | refine zs k_Pr_form rfl ?_
        | refine br_t (by simp (disch := omega) only [hn1, nI_leI, nI_ltI, nI_eq]; omega) ?_
        | refine br_f (by simp (disch := omega) only [hn1, nI_leI, nI_ltI, nI_eq]; omega) ?_
        | refine ⟨Nat.zero_lt_one, rfl, ?_⟩
        | refine ⟨rfl, ?_⟩
        | refine ⟨⟨Nat.zero_lt_one, rfl⟩, Nat.le_of_ble_eq_true rfl, ?_⟩
        | refine ⟨Nat.le_of_ble_eq_true rfl, Nat.le_of_ble_eq_true rfl, ?_⟩
        | refine ⟨(by first | exact Nat.zero_lt_one | assumption | omega), (by first | assumption | exact vp_in_nI (by omega) (by omega) | (unfold vp_in; decide)), ?_⟩
        | refine ⟨(by first | exact Nat.zero_lt_one | assumption | omega), rfl, ?_⟩
        | refine ⟨⟨(by first | exact Nat.zero_lt_one | assumption | omega), rfl⟩, Nat.le_of_ble_eq_true rfl, ?_⟩
        | refine ⟨(by first | exact Nat.zero_lt_one | assumption | omega), ?_⟩
        | refine ⟨Or.inl rfl, ?_⟩
        | refine ⟨Or.inr (Or.inl rfl), ?_⟩
        | refine ⟨Or.inr (Or.inr rfl), ?_⟩
        | refine ⟨Or.inr ⟨rfl, (by first | exact Or.inl rfl | exact Or.inr rfl | assumption)⟩, ?_⟩
        | refine ⟨fun h => absurd h (by decide), fun _ => ?_⟩
        | refine ⟨fun _ => ?_, fun h => absurd h (by decide)⟩
        | refine ⟨fun h => ?_, fun h => ?_⟩
        | fail)
      intro q r h1 h2 h3
      rw [hM q r h1 h2 h3 (Or.inl h1), ← hA]
      simp [cAd]
    | succ k ih =>
      intro p x l4 μ1 hpk hx hf hl h40 h41 hM
      subst hx
      have hcp : (nI p).toNatClampNeg = p := nI_clamp (by omega)
      have L1 : ∀ (k2 q : Nat) (y : Int32) (μ2 : zMu), q + k2 = n → p < q → y = nI q → zFr7 μ μ2 → cLf μ2 lf0 → μ2 4 0 0 = 0 → μ2 4 0 1 = 0 → (∀ a b, a < n → b < n → a ≠ b → (a < p ∨ b < p ∨ (a = p ∧ b < q) ∨ (b = p ∧ a < q)) → μ2 33 a b = cLdm μ o day nr nh n a b) → zG S (d + 5) m_Pr_form K 77 [some (zR 4 0), some (zI o), some (zI day), some (zI (nI p)), some (zI y)] [] μ2 := by
        intro k2
        induction k2 with
        | zero =>
          intro q y μ2 hqk hpq hy hf2 hl2 h40' h41' hM2
          subst hy
          obtain rfl : q = n := by omega
          have hn1 : μ2 1 0 1 = nI q := by rw [hf2 1 (by decide)]; exact hn
          refine zs k_Pr_form rfl ?_
          repeat' (first
            | refine ih (p + 1) _ _ _ (by omega) (by exact nI_1 p) hf2 hl2 h40' h41' (fun a b h1 h2 h3 h4 => hM2 a b h1 h2 h3 (by omega))
            | refine zs k_Pr_form rfl ?_
            | refine br_t (by simp (disch := omega) only [hn1, nI_leI, nI_ltI, nI_eq]; omega) ?_
            | refine br_f (by simp (disch := omega) only [hn1, nI_leI, nI_ltI, nI_eq]; omega) ?_
            | refine ⟨Nat.zero_lt_one, rfl, ?_⟩
            | refine ⟨rfl, ?_⟩
            | refine ⟨⟨Nat.zero_lt_one, rfl⟩, Nat.le_of_ble_eq_true rfl, ?_⟩
            | refine ⟨Nat.le_of_ble_eq_true rfl, Nat.le_of_ble_eq_true rfl, ?_⟩
            | refine ⟨(by first | exact Nat.zero_lt_one | assumption | omega), (by first | assumption | exact vp_in_nI (by omega) (by omega) | (unfold vp_in; decide)), ?_⟩
            | refine ⟨(by first | exact Nat.zero_lt_one | assumption | omega), rfl, ?_⟩
            | refine ⟨⟨(by first | exact Nat.zero_lt_one | assumption | omega), rfl⟩, Nat.le_of_ble_eq_true rfl, ?_⟩
            | refine ⟨(by first | exact Nat.zero_lt_one | assumption | omega), ?_⟩
            | refine ⟨Or.inl rfl, ?_⟩
            | refine ⟨Or.inr (Or.inl rfl), ?_⟩
            | refine ⟨Or.inr (Or.inr rfl), ?_⟩
            | refine ⟨Or.inr ⟨rfl, (by first | exact Or.inl rfl | exact Or.inr rfl | assumption)⟩, ?_⟩
            | refine ⟨fun h => absurd h (by decide), fun _ => ?_⟩
            | refine ⟨fun _ => ?_, fun h => absurd h (by decide)⟩
            | refine ⟨fun h => ?_, fun h => ?_⟩
            | fail)
        | succ k2 ih2 =>
          intro q y μ2 hqk hpq hy hf2 hl2 h40' h41' hM2
          subst hy
          have hn1 : μ2 1 0 1 = nI n := by rw [hf2 1 (by decide)]; exact hn
          have hcq : (nI q).toNatClampNeg = q := nI_clamp (by omega)
          have hlp : μ2 29 0 (nI p).toNatClampNeg = if lf0 p then 1 else 0 := by rw [hcp]; exact hl2 p (by omega)
          have hlq : μ2 29 0 (nI q).toNatClampNeg = if lf0 q then 1 else 0 := by rw [hcq]; exact hl2 q (by omega)
          have hlk := zFr7_lk hf2
          have hr2 : μ2 3 0 0 = nI nr := by rw [hf2 3 (by decide)]; exact hr
          have hh2 : μ2 3 0 1 = nI nh := by rw [hf2 3 (by decide)]; exact hh
          have hok2 : ∀ r, r < nr → cRok μ2 r := fun r h => zLk_rok hlk (hok r h)
          have hld : pLd (pHand (μ2 20 0) (μ2 21 0) (nI p) (nI q) nh) (cV μ2 o day (nI p).toNatClampNeg (nI q).toNatClampNeg) (cOc μ2) nr = cLdr μ o day nr nh p q := by
            rw [hcp, hcq]
            exact zLk_ldr hlk o day nr nh p q
          have nxt : ∀ v : Int32, v = cLdm μ o day nr nh n p q → zG S (d + 5) m_Pr_form K 132 [some (zR 4 0), some (zI o), some (zI day), some (zI (nI p)), some (zI (nI q))] [zI v, zI (nI q), zR 33 (nI p).toNatClampNeg] μ2 := by
            intro v hv
            have hne : ¬ p = q := by omega
            have hzz : zu μ2 33 p q v 33 p q = v := zu_eq
            rw [hcp]
            refine zs k_Pr_form rfl ?_
            repeat' (first
              | (rw [hcq, hcp]; refine ih2 (q + 1) _ _ (by omega) (by omega) (by exact nI_1 q) ?_ hl2 h40' h41' ?_)
              | refine zs k_Pr_form rfl ?_
              | refine ⟨Nat.zero_lt_one, rfl, ?_⟩
              | refine ⟨rfl, ?_⟩
              | refine ⟨⟨Nat.zero_lt_one, rfl⟩, Nat.le_of_ble_eq_true rfl, ?_⟩
              | refine ⟨Nat.le_of_ble_eq_true rfl, Nat.le_of_ble_eq_true rfl, ?_⟩
              | refine ⟨(by first | exact Nat.zero_lt_one | assumption | omega), (by first | assumption | exact vp_in_nI (by omega) (by omega) | (unfold vp_in; decide)), ?_⟩
              | refine ⟨(by first | exact Nat.zero_lt_one | assumption | omega), rfl, ?_⟩
              | refine ⟨⟨(by first | exact Nat.zero_lt_one | assumption | omega), rfl⟩, Nat.le_of_ble_eq_true rfl, ?_⟩
              | refine ⟨(by first | exact Nat.zero_lt_one | assumption | omega), ?_⟩
              | refine ⟨Or.inl rfl, ?_⟩
              | refine ⟨Or.inr (Or.inl rfl), ?_⟩
              | refine ⟨Or.inr (Or.inr rfl), ?_⟩
              | refine ⟨Or.inr ⟨rfl, (by first | exact Or.inl rfl | exact Or.inr rfl | assumption)⟩, ?_⟩
              | refine ⟨fun h => absurd h (by decide), fun _ => ?_⟩
              | refine ⟨fun _ => ?_, fun h => absurd h (by decide)⟩
              | refine ⟨fun h => ?_, fun h => ?_⟩
              | fail)
            · intro f hfs
              rw [← hf2 f hfs]
              funext a b
              simp only [zu]
              simp only [List.mem_cons, List.not_mem_nil, or_false, not_or] at hfs
              rw [if_neg (by omega), if_neg (by omega)]
            · intro a b h1 h2 h3 h4
              rw [hzz]
              simp only [zu]
              by_cases e1 : a = q ∧ b = p
              · rw [if_pos ⟨trivial, e1.2, e1.1⟩, e1.1, e1.2, hv]
                exact (cLdm_anti (by omega) (by omega) (by omega)).symm
              · rw [if_neg (fun h => e1 ⟨h.2.2, h.2.1⟩)]
                by_cases e2 : a = p ∧ b = q
                · rw [if_pos ⟨trivial, e2.2, e2.1⟩, e2.1, e2.2, hv]
                · rw [if_neg (fun h => e2 ⟨h.2.2, h.2.1⟩)]
                  exact hM2 a b h1 h2 h3 (by omega)
          cases hbp : lf0 p with
          | false =>
            rw [hbp] at hlp
            have hz : μ2 29 0 (nI p).toNatClampNeg = 0 := by rw [hlp]; rfl
            refine zs k_Pr_form rfl ?_
            repeat' (first
              | refine br_t hz ?_
              | refine nxt 0 ?_
              | refine zs k_Pr_form rfl ?_
              | refine br_t (by simp (disch := omega) only [hn1, nI_leI, nI_ltI, nI_eq]; omega) ?_
              | refine br_f (by simp (disch := omega) only [hn1, nI_leI, nI_ltI, nI_eq]; omega) ?_
              | refine ⟨Nat.zero_lt_one, rfl, ?_⟩
              | refine ⟨rfl, ?_⟩
              | refine ⟨⟨Nat.zero_lt_one, rfl⟩, Nat.le_of_ble_eq_true rfl, ?_⟩
              | refine ⟨Nat.le_of_ble_eq_true rfl, Nat.le_of_ble_eq_true rfl, ?_⟩
              | refine ⟨(by first | exact Nat.zero_lt_one | assumption | omega), (by first | assumption | exact vp_in_nI (by omega) (by omega) | (unfold vp_in; decide)), ?_⟩
              | refine ⟨(by first | exact Nat.zero_lt_one | assumption | omega), rfl, ?_⟩
              | refine ⟨⟨(by first | exact Nat.zero_lt_one | assumption | omega), rfl⟩, Nat.le_of_ble_eq_true rfl, ?_⟩
              | refine ⟨(by first | exact Nat.zero_lt_one | assumption | omega), ?_⟩
              | refine ⟨Or.inl rfl, ?_⟩
              | refine ⟨Or.inr (Or.inl rfl), ?_⟩
              | refine ⟨Or.inr (Or.inr rfl), ?_⟩
              | refine ⟨Or.inr ⟨rfl, (by first | exact Or.inl rfl | exact Or.inr rfl | assumption)⟩, ?_⟩
              | refine ⟨fun h => absurd h (by decide), fun _ => ?_⟩
              | refine ⟨fun _ => ?_, fun h => absurd h (by decide)⟩
              | refine ⟨fun h => ?_, fun h => ?_⟩
              | fail)
            simp [cLdm, hlf, hbp]
          | true =>
            rw [hbp] at hlp
            have hz : ¬ μ2 29 0 (nI p).toNatClampNeg = 0 := by rw [hlp]; decide
            cases hbq : lf0 q with
            | false =>
              rw [hbq] at hlq
              have hz2 : μ2 29 0 (nI q).toNatClampNeg = 0 := by rw [hlq]; rfl
              refine zs k_Pr_form rfl ?_
              repeat' (first
                | refine br_t hz2 ?_
                | refine br_f hz ?_
                | refine nxt 0 ?_
                | refine zs k_Pr_form rfl ?_
                | refine br_t (by simp (disch := omega) only [hn1, nI_leI, nI_ltI, nI_eq]; omega) ?_
                | refine br_f (by simp (disch := omega) only [hn1, nI_leI, nI_ltI, nI_eq]; omega) ?_
                | refine ⟨Nat.zero_lt_one, rfl, ?_⟩
                | refine ⟨rfl, ?_⟩
                | refine ⟨⟨Nat.zero_lt_one, rfl⟩, Nat.le_of_ble_eq_true rfl, ?_⟩
                | refine ⟨Nat.le_of_ble_eq_true rfl, Nat.le_of_ble_eq_true rfl, ?_⟩
                | refine ⟨(by first | exact Nat.zero_lt_one | assumption | omega), (by first | assumption | exact vp_in_nI (by omega) (by omega) | (unfold vp_in; decide)), ?_⟩
                | refine ⟨(by first | exact Nat.zero_lt_one | assumption | omega), rfl, ?_⟩
                | refine ⟨⟨(by first | exact Nat.zero_lt_one | assumption | omega), rfl⟩, Nat.le_of_ble_eq_true rfl, ?_⟩
                | refine ⟨(by first | exact Nat.zero_lt_one | assumption | omega), ?_⟩
                | refine ⟨Or.inl rfl, ?_⟩
                | refine ⟨Or.inr (Or.inl rfl), ?_⟩
                | refine ⟨Or.inr (Or.inr rfl), ?_⟩
                | refine ⟨Or.inr ⟨rfl, (by first | exact Or.inl rfl | exact Or.inr rfl | assumption)⟩, ?_⟩
                | refine ⟨fun h => absurd h (by decide), fun _ => ?_⟩
                | refine ⟨fun _ => ?_, fun h => absurd h (by decide)⟩
                | refine ⟨fun h => ?_, fun h => ?_⟩
                | fail)
              simp [cLdm, hlf, hbq]
            | true =>
              rw [hbq] at hlq
              have hz2 : ¬ μ2 29 0 (nI q).toNatClampNeg = 0 := by rw [hlq]; decide
              refine zs k_Pr_form rfl ?_
              repeat' (first
                | refine br_f hz2 ?_
                | refine br_f hz ?_
                | (refine c_Bo_leader hr2 h16 hh2 hh20 hok2 (vp_in_nI (by omega) (by omega)) (vp_in_nI (by omega) (by omega)) ?_; rw [hld])
                | refine nxt _ ?_
                | refine zs k_Pr_form rfl ?_
                | refine br_t (by simp (disch := omega) only [hn1, nI_leI, nI_ltI, nI_eq]; omega) ?_
                | refine br_f (by simp (disch := omega) only [hn1, nI_leI, nI_ltI, nI_eq]; omega) ?_
                | refine ⟨Nat.zero_lt_one, rfl, ?_⟩
                | refine ⟨rfl, ?_⟩
                | refine ⟨⟨Nat.zero_lt_one, rfl⟩, Nat.le_of_ble_eq_true rfl, ?_⟩
                | refine ⟨Nat.le_of_ble_eq_true rfl, Nat.le_of_ble_eq_true rfl, ?_⟩
                | refine ⟨(by first | exact Nat.zero_lt_one | assumption | omega), (by first | assumption | exact vp_in_nI (by omega) (by omega) | (unfold vp_in; decide)), ?_⟩
                | refine ⟨(by first | exact Nat.zero_lt_one | assumption | omega), rfl, ?_⟩
                | refine ⟨⟨(by first | exact Nat.zero_lt_one | assumption | omega), rfl⟩, Nat.le_of_ble_eq_true rfl, ?_⟩
                | refine ⟨(by first | exact Nat.zero_lt_one | assumption | omega), ?_⟩
                | refine ⟨Or.inl rfl, ?_⟩
                | refine ⟨Or.inr (Or.inl rfl), ?_⟩
                | refine ⟨Or.inr (Or.inr rfl), ?_⟩
                | refine ⟨Or.inr ⟨rfl, (by first | exact Or.inl rfl | exact Or.inr rfl | assumption)⟩, ?_⟩
                | refine ⟨fun h => absurd h (by decide), fun _ => ?_⟩
                | refine ⟨fun _ => ?_, fun h => absurd h (by decide)⟩
                | refine ⟨fun h => ?_, fun h => ?_⟩
                | fail)
              simp [cLdm, hlf, hbp, hbq]
      have hn1 : μ1 1 0 1 = nI n := by rw [hf 1 (by decide)]; exact hn
      refine zs k_Pr_form rfl ?_
      repeat' (first
        | refine L1 (n - (p + 1)) (p + 1) _ _ (by omega) (by omega) (by exact nI_1 p) hf hl h40 h41 (fun a b h1 h2 h3 h4 => hM a b h1 h2 h3 (by omega))
        | refine zs k_Pr_form rfl ?_
        | refine br_t (by simp (disch := omega) only [hn1, nI_leI, nI_ltI, nI_eq]; omega) ?_
        | refine br_f (by simp (disch := omega) only [hn1, nI_leI, nI_ltI, nI_eq]; omega) ?_
        | refine ⟨Nat.zero_lt_one, rfl, ?_⟩
        | refine ⟨rfl, ?_⟩
        | refine ⟨⟨Nat.zero_lt_one, rfl⟩, Nat.le_of_ble_eq_true rfl, ?_⟩
        | refine ⟨Nat.le_of_ble_eq_true rfl, Nat.le_of_ble_eq_true rfl, ?_⟩
        | refine ⟨(by first | exact Nat.zero_lt_one | assumption | omega), (by first | assumption | exact vp_in_nI (by omega) (by omega) | (unfold vp_in; decide)), ?_⟩
        | refine ⟨(by first | exact Nat.zero_lt_one | assumption | omega), rfl, ?_⟩
        | refine ⟨⟨(by first | exact Nat.zero_lt_one | assumption | omega), rfl⟩, Nat.le_of_ble_eq_true rfl, ?_⟩
        | refine ⟨(by first | exact Nat.zero_lt_one | assumption | omega), ?_⟩
        | refine ⟨Or.inl rfl, ?_⟩
        | refine ⟨Or.inr (Or.inl rfl), ?_⟩
        | refine ⟨Or.inr (Or.inr rfl), ?_⟩
        | refine ⟨Or.inr ⟨rfl, (by first | exact Or.inl rfl | exact Or.inr rfl | assumption)⟩, ?_⟩
        | refine ⟨fun h => absurd h (by decide), fun _ => ?_⟩
        | refine ⟨fun _ => ?_, fun h => absurd h (by decide)⟩
        | refine ⟨fun h => ?_, fun h => ?_⟩
        | fail)
  -- who is left
  have L0 : ∀ (k i : Nat) (x : Int32) (l4 : Option zV) (μ1 : zMu), i + k = 20 → x = nI i → zFr7 μ μ1 → μ1 4 0 0 = 0 → μ1 4 0 1 = 0 → (∀ p, p < i → μ1 29 0 p = if lf0 p then 1 else 0) → zG S (d + 5) m_Pr_form K 12 [some (zR 4 0), some (zI o), some (zI day), some (zI x), l4] [] μ1 := by
    intro k
    induction k with
    | zero =>
      intro i x l4 μ1 hi hx hf h40 h41 hl
      subst hx
      obtain rfl : i = 20 := by omega
      refine zs k_Pr_form rfl ?_
      repeat' (first
        | refine br_t (by decide) ?_
        | refine L2 n 0 _ _ _ (by omega) rfl hf hl h40 h41 (fun a b _ _ _ h => absurd h (by omega))
        | refine zs k_Pr_form rfl ?_
        | refine ⟨Nat.zero_lt_one, rfl, ?_⟩
        | refine ⟨rfl, ?_⟩
        | refine ⟨⟨Nat.zero_lt_one, rfl⟩, Nat.le_of_ble_eq_true rfl, ?_⟩
        | refine ⟨Nat.le_of_ble_eq_true rfl, Nat.le_of_ble_eq_true rfl, ?_⟩
        | refine ⟨(by first | exact Nat.zero_lt_one | assumption | omega), (by first | assumption | exact vp_in_nI (by omega) (by omega) | (unfold vp_in; decide)), ?_⟩
        | refine ⟨(by first | exact Nat.zero_lt_one | assumption | omega), rfl, ?_⟩
        | refine ⟨⟨(by first | exact Nat.zero_lt_one | assumption | omega), rfl⟩, Nat.le_of_ble_eq_true rfl, ?_⟩
        | refine ⟨(by first | exact Nat.zero_lt_one | assumption | omega), ?_⟩
        | refine ⟨Or.inl rfl, ?_⟩
        | refine ⟨Or.inr (Or.inl rfl), ?_⟩
        | refine ⟨Or.inr (Or.inr rfl), ?_⟩
        | refine ⟨Or.inr ⟨rfl, (by first | exact Or.inl rfl | exact Or.inr rfl | assumption)⟩, ?_⟩
        | refine ⟨fun h => absurd h (by decide), fun _ => ?_⟩
        | refine ⟨fun _ => ?_, fun h => absurd h (by decide)⟩
        | refine ⟨fun h => ?_, fun h => ?_⟩
        | fail)
    | succ k ih =>
      intro i x l4 μ1 hi hx hf h40 h41 hl
      subst hx
      have h20i : ¬ (20 : Int32) ≤ nI i := nI_ge (b := 20) (by omega) (by omega)
      have hc : (nI i).toNatClampNeg = i := nI_clamp (by omega)
      have hn1 : μ1 1 0 1 = nI n := by rw [hf 1 (by decide)]; exact hn
      have h10 : μ1 10 0 (nI i).toNatClampNeg = μ 10 0 i := by rw [hc, hf 10 (by decide)]
      have hb0 : vp_nar .boolean 0 = 0 := rfl
      have hb1 : vp_nar .boolean 1 = 1 := rfl
      have fin : ∀ v : Int32, (v = 0 ∨ v = 1) → v = (if lf0 i then 1 else 0) → zG S (d + 5) m_Pr_form K 52 [some (zR 4 0), some (zI o), some (zI day), some (zI (nI i)), l4] [zI v, zI (nI i), zR 29 0] μ1 := by
        intro v h01 hv
        have hnar : vp_nar .boolean v = v := by rcases h01 with rfl | rfl <;> rfl
        refine zs k_Pr_form rfl ?_
        repeat' (first
          | (rw [hc, hnar]; refine ih (i + 1) _ _ _ (by omega) (by exact nI_1 i) ?_ h40 h41 ?_)
          | refine zs k_Pr_form rfl ?_
          | refine ⟨Nat.zero_lt_one, rfl, ?_⟩
          | refine ⟨rfl, ?_⟩
          | refine ⟨⟨Nat.zero_lt_one, rfl⟩, Nat.le_of_ble_eq_true rfl, ?_⟩
          | refine ⟨Nat.le_of_ble_eq_true rfl, Nat.le_of_ble_eq_true rfl, ?_⟩
          | refine ⟨(by first | exact Nat.zero_lt_one | assumption | omega), (by first | assumption | exact vp_in_nI (by omega) (by omega) | (unfold vp_in; decide)), ?_⟩
          | refine ⟨(by first | exact Nat.zero_lt_one | assumption | omega), rfl, ?_⟩
          | refine ⟨⟨(by first | exact Nat.zero_lt_one | assumption | omega), rfl⟩, Nat.le_of_ble_eq_true rfl, ?_⟩
          | refine ⟨(by first | exact Nat.zero_lt_one | assumption | omega), ?_⟩
          | refine ⟨Or.inl rfl, ?_⟩
          | refine ⟨Or.inr (Or.inl rfl), ?_⟩
          | refine ⟨Or.inr (Or.inr rfl), ?_⟩
          | refine ⟨Or.inr ⟨rfl, (by first | exact Or.inl rfl | exact Or.inr rfl | assumption)⟩, ?_⟩
          | refine ⟨fun h => absurd h (by decide), fun _ => ?_⟩
          | refine ⟨fun _ => ?_, fun h => absurd h (by decide)⟩
          | refine ⟨fun h => ?_, fun h => ?_⟩
          | fail)
        · intro f hfs
          rw [← hf f hfs]
          funext a b
          simp only [zu]
          simp only [List.mem_cons, List.not_mem_nil, or_false, not_or] at hfs
          rw [if_neg (by omega)]
        · intro p hpi
          by_cases e : p = i
          · rw [e]
            exact (if_pos (show 29 = 29 ∧ i = i ∧ 0 = 0 from ⟨rfl, rfl, rfl⟩)).trans hv
          · exact (if_neg (show ¬ (29 = 29 ∧ p = i ∧ 0 = 0) by omega)).trans (hl p (by omega))
      by_cases hin : i < n
      · have hlti : ¬ nI n ≤ nI i := nI_ge (by omega) (by omega)
        by_cases hpr : μ 10 0 i = 1
        · have hnp : μ1 10 0 (nI i).toNatClampNeg = 1 := h10.trans hpr
          refine zs k_Pr_form rfl ?_
          repeat' (first
            | refine fin 1 (Or.inr rfl) ?_
            | refine br_f h20i ?_
            | refine br_f (show ¬ μ1 1 0 1 ≤ nI i by rw [hn1]; exact hlti) ?_
            | refine ⟨fun h => absurd hnp h, fun _ => ?_⟩
            | refine zs k_Pr_form rfl ?_
            | refine ⟨Nat.zero_lt_one, rfl, ?_⟩
            | refine ⟨rfl, ?_⟩
            | refine ⟨⟨Nat.zero_lt_one, rfl⟩, Nat.le_of_ble_eq_true rfl, ?_⟩
            | refine ⟨Nat.le_of_ble_eq_true rfl, Nat.le_of_ble_eq_true rfl, ?_⟩
            | refine ⟨(by first | exact Nat.zero_lt_one | assumption | omega), (by first | assumption | exact vp_in_nI (by omega) (by omega) | (unfold vp_in; decide)), ?_⟩
            | refine ⟨(by first | exact Nat.zero_lt_one | assumption | omega), rfl, ?_⟩
            | refine ⟨⟨(by first | exact Nat.zero_lt_one | assumption | omega), rfl⟩, Nat.le_of_ble_eq_true rfl, ?_⟩
            | refine ⟨(by first | exact Nat.zero_lt_one | assumption | omega), ?_⟩
            | refine ⟨Or.inl rfl, ?_⟩
            | refine ⟨Or.inr (Or.inl rfl), ?_⟩
            | refine ⟨Or.inr (Or.inr rfl), ?_⟩
            | refine ⟨Or.inr ⟨rfl, (by first | exact Or.inl rfl | exact Or.inr rfl | assumption)⟩, ?_⟩
            | refine ⟨fun h => absurd h (by decide), fun _ => ?_⟩
            | refine ⟨fun _ => ?_, fun h => absurd h (by decide)⟩
            | refine ⟨fun h => ?_, fun h => ?_⟩
            | fail)
          rw [← hlf]
          simp [cLf0, hin, hpr]
        · have hnp : ¬ μ1 10 0 (nI i).toNatClampNeg = 1 := fun e => hpr (h10.symm.trans e)
          refine zs k_Pr_form rfl ?_
          repeat' (first
            | refine fin 0 (Or.inl rfl) ?_
            | refine br_f h20i ?_
            | refine br_f (show ¬ μ1 1 0 1 ≤ nI i by rw [hn1]; exact hlti) ?_
            | refine ⟨fun _ => ?_, fun h => absurd h hnp⟩
            | refine zs k_Pr_form rfl ?_
            | refine ⟨Nat.zero_lt_one, rfl, ?_⟩
            | refine ⟨rfl, ?_⟩
            | refine ⟨⟨Nat.zero_lt_one, rfl⟩, Nat.le_of_ble_eq_true rfl, ?_⟩
            | refine ⟨Nat.le_of_ble_eq_true rfl, Nat.le_of_ble_eq_true rfl, ?_⟩
            | refine ⟨(by first | exact Nat.zero_lt_one | assumption | omega), (by first | assumption | exact vp_in_nI (by omega) (by omega) | (unfold vp_in; decide)), ?_⟩
            | refine ⟨(by first | exact Nat.zero_lt_one | assumption | omega), rfl, ?_⟩
            | refine ⟨⟨(by first | exact Nat.zero_lt_one | assumption | omega), rfl⟩, Nat.le_of_ble_eq_true rfl, ?_⟩
            | refine ⟨(by first | exact Nat.zero_lt_one | assumption | omega), ?_⟩
            | refine ⟨Or.inl rfl, ?_⟩
            | refine ⟨Or.inr (Or.inl rfl), ?_⟩
            | refine ⟨Or.inr (Or.inr rfl), ?_⟩
            | refine ⟨Or.inr ⟨rfl, (by first | exact Or.inl rfl | exact Or.inr rfl | assumption)⟩, ?_⟩
            | refine ⟨fun h => absurd h (by decide), fun _ => ?_⟩
            | refine ⟨fun _ => ?_, fun h => absurd h (by decide)⟩
            | refine ⟨fun h => ?_, fun h => ?_⟩
            | fail)
          rw [← hlf]
          simp [cLf0, hpr]
      · have hlti : nI n ≤ nI i := nI_le (by omega) (by omega)
        refine zs k_Pr_form rfl ?_
        repeat' (first
          | refine fin 0 (Or.inl rfl) ?_
          | refine br_f h20i ?_
          | refine br_t (show μ1 1 0 1 ≤ nI i by rw [hn1]; exact hlti) ?_
          | refine zs k_Pr_form rfl ?_
          | refine ⟨Nat.zero_lt_one, rfl, ?_⟩
          | refine ⟨rfl, ?_⟩
          | refine ⟨⟨Nat.zero_lt_one, rfl⟩, Nat.le_of_ble_eq_true rfl, ?_⟩
          | refine ⟨Nat.le_of_ble_eq_true rfl, Nat.le_of_ble_eq_true rfl, ?_⟩
          | refine ⟨(by first | exact Nat.zero_lt_one | assumption | omega), (by first | assumption | exact vp_in_nI (by omega) (by omega) | (unfold vp_in; decide)), ?_⟩
          | refine ⟨(by first | exact Nat.zero_lt_one | assumption | omega), rfl, ?_⟩
          | refine ⟨⟨(by first | exact Nat.zero_lt_one | assumption | omega), rfl⟩, Nat.le_of_ble_eq_true rfl, ?_⟩
          | refine ⟨(by first | exact Nat.zero_lt_one | assumption | omega), ?_⟩
          | refine ⟨Or.inl rfl, ?_⟩
          | refine ⟨Or.inr (Or.inl rfl), ?_⟩
          | refine ⟨Or.inr (Or.inr rfl), ?_⟩
          | refine ⟨Or.inr ⟨rfl, (by first | exact Or.inl rfl | exact Or.inr rfl | assumption)⟩, ?_⟩
          | refine ⟨fun h => absurd h (by decide), fun _ => ?_⟩
          | refine ⟨fun _ => ?_, fun h => absurd h (by decide)⟩
          | refine ⟨fun h => ?_, fun h => ?_⟩
          | fail)
        rw [← hlf]
        simp [cLf0, hin]
  repeat' (first
    | refine L0 20 0 _ _ _ (by omega) rfl ?_ rfl rfl (fun p hp => absurd hp (by omega))
    | refine zs k_Pr_form rfl ?_
    | refine ⟨Nat.zero_lt_one, rfl, ?_⟩
    | refine ⟨rfl, ?_⟩
    | refine ⟨⟨Nat.zero_lt_one, rfl⟩, Nat.le_of_ble_eq_true rfl, ?_⟩
    | refine ⟨Nat.le_of_ble_eq_true rfl, Nat.le_of_ble_eq_true rfl, ?_⟩
    | refine ⟨(by first | exact Nat.zero_lt_one | assumption | omega), (by first | assumption | exact vp_in_nI (by omega) (by omega) | (unfold vp_in; decide)), ?_⟩
    | refine ⟨(by first | exact Nat.zero_lt_one | assumption | omega), rfl, ?_⟩
    | refine ⟨⟨(by first | exact Nat.zero_lt_one | assumption | omega), rfl⟩, Nat.le_of_ble_eq_true rfl, ?_⟩
    | refine ⟨(by first | exact Nat.zero_lt_one | assumption | omega), ?_⟩
    | refine ⟨Or.inl rfl, ?_⟩
    | refine ⟨Or.inr (Or.inl rfl), ?_⟩
    | refine ⟨Or.inr (Or.inr rfl), ?_⟩
    | refine ⟨Or.inr ⟨rfl, (by first | exact Or.inl rfl | exact Or.inr rfl | assumption)⟩, ?_⟩
    | refine ⟨fun h => absurd h (by decide), fun _ => ?_⟩
    | refine ⟨fun _ => ?_, fun h => absurd h (by decide)⟩
    | refine ⟨fun h => ?_, fun h => ?_⟩
    | fail)
  intro f hfs
  funext a b
  simp only [zu]
  simp only [List.mem_cons, List.not_mem_nil, or_false, not_or] at hfs
  rw [if_neg (by omega), if_neg (by omega)]
end
section
/-! ROLL: the dean -/
def cDn (μ : zMu) (p : Nat) : Prop := (μ 17 p 4 = 0 ∨ μ 17 p 4 = 5) ∧ μ 10 0 p = 1 ∧ ¬ μ 16 0 p = 0
def cEl (μ : zMu) (p q : Nat) : Prop := μ 17 p 3 < μ 17 q 3 ∨ (μ 17 p 3 = μ 17 q 3 ∧ μ 16 0 p < μ 16 0 q)
theorem c_Ro_canBeDean {d : Nat} {μ : zMu} {p : Int32} {K : Option zV → zMu → Prop} (hp : vp_in p 20) (h1 : cDn μ p.toNatClampNeg → K (some (zI 1)) μ) (h0 : ¬ cDn μ p.toNatClampNeg → K (some (zI 0)) μ) : Ct (d + 1) m_Ro_canBeDean [zR 1 0, zI p] μ K := by
  refine zmeet rfl (Nat.le_of_ble_eq_true rfl) (fun S => ?_)
  have hp2 := vp_lt hp
  unfold cDn at h1 h0
  repeat' (first
    | refine c_Ro_isOfKind hp (fun hk => ?_) (fun hk => ?_)
    | exact h0 (by grind)
    | exact h1 (by grind)
    | refine zs k_Ro_canBeDean rfl ?_
    | refine ⟨Nat.zero_lt_one, rfl, ?_⟩
    | refine ⟨rfl, ?_⟩
    | refine ⟨⟨Nat.zero_lt_one, rfl⟩, Nat.le_of_ble_eq_true rfl, ?_⟩
    | refine ⟨Nat.le_of_ble_eq_true rfl, Nat.le_of_ble_eq_true rfl, ?_⟩
    | refine ⟨(by first | exact Nat.zero_lt_one | assumption | omega), (by first | assumption | exact vp_in_nI (by omega) (by omega) | (unfold vp_in; decide)), ?_⟩
    | refine ⟨(by first | exact Nat.zero_lt_one | assumption | omega), rfl, ?_⟩
    | refine ⟨⟨(by first | exact Nat.zero_lt_one | assumption | omega), rfl⟩, Nat.le_of_ble_eq_true rfl, ?_⟩
    | refine ⟨(by first | exact Nat.zero_lt_one | assumption | omega), ?_⟩
    | refine ⟨Or.inl rfl, ?_⟩
    | refine ⟨Or.inr (Or.inl rfl), ?_⟩
    | refine ⟨Or.inr (Or.inr rfl), ?_⟩
    | refine ⟨Or.inr ⟨rfl, (by first | exact Or.inl rfl | exact Or.inr rfl | assumption)⟩, ?_⟩
    | refine ⟨fun h => absurd h (by decide), fun _ => ?_⟩
    | refine ⟨fun _ => ?_, fun h => absurd h (by decide)⟩
    | refine ⟨fun h => ?_, fun h => ?_⟩
    | fail)
theorem c_Ro_isElder {d : Nat} {μ : zMu} {p q : Int32} {K : Option zV → zMu → Prop} (hp : vp_in p 20) (hq : vp_in q 20) (h1 : cEl μ p.toNatClampNeg q.toNatClampNeg → K (some (zI 1)) μ) (h0 : ¬ cEl μ p.toNatClampNeg q.toNatClampNeg → K (some (zI 0)) μ) : Ct d m_Ro_isElder [zR 1 0, zI p, zI q] μ K := by
  refine zmeet rfl (Nat.le_of_ble_eq_true rfl) (fun S => ?_)
  have hp2 := vp_lt hp
  have hq2 := vp_lt hq
  unfold cEl at h1 h0
  have e3 : Int32.toNatClampNeg 3 = 3 := rfl
  repeat' (first
    | exact h0 (by rw [e3] at *; grind)
    | exact h1 (by rw [e3] at *; grind)
    | refine zs k_Ro_isElder rfl ?_
    | refine ⟨Nat.zero_lt_one, rfl, ?_⟩
    | refine ⟨rfl, ?_⟩
    | refine ⟨⟨Nat.zero_lt_one, rfl⟩, Nat.le_of_ble_eq_true rfl, ?_⟩
    | refine ⟨Nat.le_of_ble_eq_true rfl, Nat.le_of_ble_eq_true rfl, ?_⟩
    | refine ⟨(by first | exact Nat.zero_lt_one | assumption | omega), (by first | assumption | exact vp_in_nI (by omega) (by omega) | (unfold vp_in; decide)), ?_⟩
    | refine ⟨(by first | exact Nat.zero_lt_one | assumption | omega), rfl, ?_⟩
    | refine ⟨⟨(by first | exact Nat.zero_lt_one | assumption | omega), rfl⟩, Nat.le_of_ble_eq_true rfl, ?_⟩
    | refine ⟨(by first | exact Nat.zero_lt_one | assumption | omega), ?_⟩
    | refine ⟨Or.inl rfl, ?_⟩
    | refine ⟨Or.inr (Or.inl rfl), ?_⟩
    | refine ⟨Or.inr (Or.inr rfl), ?_⟩
    | refine ⟨Or.inr ⟨rfl, (by first | exact Or.inl rfl | exact Or.inr rfl | assumption)⟩, ?_⟩
    | refine ⟨fun h => absurd h (by decide), fun _ => ?_⟩
    | refine ⟨fun _ => ?_, fun h => absurd h (by decide)⟩
    | refine ⟨fun h => ?_, fun h => ?_⟩
    | fail)
end
section
/-! ROLL: papers, homes -/
def cHp (μ : zMu) (p i : Nat) : zMu := fun f a k => if f = 17 ∧ p ≤ a ∧ a < i ∧ k = 0 then cRank μ a else if f = 17 ∧ p ≤ a ∧ a < i ∧ k = 1 then cPap μ a else μ f a k
theorem cHp_4 {μ : zMu} {p i a : Nat} : cHp μ p i 17 a 4 = μ 17 a 4 := by
  unfold cHp
  rw [if_neg (by omega), if_neg (by omega)]
theorem cHp_o {μ : zMu} {p i f a k : Nat} (hf : f ≠ 17) : cHp μ p i f a k = μ f a k := by
  unfold cHp
  rw [if_neg (by omega), if_neg (by omega)]
theorem cHp_own {μ : zMu} {p i a : Nat} : cOwn (cHp μ p i) a = cOwn μ a := by
  unfold cOwn
  rw [cHp_4, cHp_o (by decide), cHp_o (by decide)]
theorem cHp_rank {μ : zMu} {p i a : Nat} : cRank (cHp μ p i) a = cRank μ a := by
  unfold cRank
  rw [cHp_4, cHp_o (by decide), cHp_own, cHp_own]
theorem cHp_pap {μ : zMu} {p i a : Nat} : cPap (cHp μ p i) a = cPap μ a := by
  have e : cPq (cHp μ p i) a = cPq μ a := by
    unfold cPq
    rw [cHp_4, cHp_o (by decide)]
  unfold cPap
  rw [e, cHp_o (by decide)]
theorem cHp_step {μ : zMu} {p i : Nat} (h : p ≤ i) : zu (zu (cHp μ p i) 17 i 0 (cRank μ i)) 17 i 1 (cPap μ i) = cHp μ p (i + 1) := by
  funext f a k
  simp only [zu, cHp]
  grind
theorem c_Ro_handPaper {d n p : Nat} {μ : zMu} {x y : Int32} {K : Option zV → zMu → Prop} (hn : μ 1 0 1 = nI n) (h20 : n ≤ 20) (hp : p < n) (hx : x = nI p) (ho : ∀ i, i < n → cOf μ i) (hK : K (some (zI (μ 16 0 p))) (cHp (zu μ 16 0 p y) p n)) : Ct (d + 4) m_Ro_handPaper [zR 1 0, zI x, zI y] μ K := by
  subst hx
  refine zmeet rfl (Nat.le_of_ble_eq_true rfl) (fun S => ?_)
  have hcp : (nI p).toNatClampNeg = p := nI_clamp (by omega)
  have L : ∀ (k i : Nat) (v : Int32) (μ1 : zMu), i + k = n → p ≤ i → v = nI i → μ1 = cHp (zu μ 16 0 p y) p i → zG S (d + 4) m_Ro_handPaper K 17 [some (zR 1 0), some (zI (nI p)), some (zI y), some (zI (μ 16 0 p)), some (zI v)] [] μ1 := by
    intro k
    induction k with
    | zero =>
      intro i v μ1 hi hpi hv hm
      subst hv
      obtain rfl : i = n := by omega
      have hn1 : μ1 1 0 1 = nI i := by rw [hm]; exact hn
      refine zs k_Ro_handPaper rfl ?_
      repeat' (first
        | exact zKe hK rfl hm
        | refine zs k_Ro_handPaper rfl ?_
        | refine br_t (by simp (disch := omega) only [hn1, nI_leI, nI_ltI, nI_eq]; omega) ?_
        | refine br_f (by simp (disch := omega) only [hn1, nI_leI, nI_ltI, nI_eq]; omega) ?_
        | refine ⟨Nat.zero_lt_one, rfl, ?_⟩
        | refine ⟨rfl, ?_⟩
        | refine ⟨⟨Nat.zero_lt_one, rfl⟩, Nat.le_of_ble_eq_true rfl, ?_⟩
        | refine ⟨Nat.le_of_ble_eq_true rfl, Nat.le_of_ble_eq_true rfl, ?_⟩
        | refine ⟨(by first | exact Nat.zero_lt_one | assumption | omega), (by first | assumption | exact vp_in_nI (by omega) (by omega) | (unfold vp_in; decide)), ?_⟩
        | refine ⟨(by first | exact Nat.zero_lt_one | assumption | omega), rfl, ?_⟩
        | refine ⟨⟨(by first | exact Nat.zero_lt_one | assumption | omega), rfl⟩, Nat.le_of_ble_eq_true rfl, ?_⟩
        | refine ⟨(by first | exact Nat.zero_lt_one | assumption | omega), ?_⟩
        | refine ⟨Or.inl rfl, ?_⟩
        | refine ⟨Or.inr (Or.inl rfl), ?_⟩
        | refine ⟨Or.inr (Or.inr rfl), ?_⟩
        | refine ⟨Or.inr ⟨rfl, (by first | exact Or.inl rfl | exact Or.inr rfl | assumption)⟩, ?_⟩
        | refine ⟨fun h => absurd h (by decide), fun _ => ?_⟩
        | refine ⟨fun _ => ?_, fun h => absurd h (by decide)⟩
        | refine ⟨fun h => ?_, fun h => ?_⟩
        | fail)
    | succ k ih =>
      intro i v μ1 hi hpi hv hm
      subst hv
      have hn1 : μ1 1 0 1 = nI n := by rw [hm]; exact hn
      have hc : (nI i).toNatClampNeg = i := nI_clamp (by omega)
      have hof : cOf μ1 (nI i).toNatClampNeg := by
        rw [hc, hm]
        unfold cOf
        rw [cHp_4, cHp_o (by decide)]
        exact ho i (by omega)
      refine zs k_Ro_handPaper rfl ?_
      repeat' (first
        | refine c_Ro_refreshFields (vp_in_nI (by omega) (by omega)) hof ?_
        | refine ih (i + 1) _ _ (by omega) (by omega) (by exact nI_1 i) ?_
        | refine zs k_Ro_handPaper rfl ?_
        | refine br_t (by simp (disch := omega) only [hn1, nI_leI, nI_ltI, nI_eq]; omega) ?_
        | refine br_f (by simp (disch := omega) only [hn1, nI_leI, nI_ltI, nI_eq]; omega) ?_
        | refine ⟨Nat.zero_lt_one, rfl, ?_⟩
        | refine ⟨rfl, ?_⟩
        | refine ⟨⟨Nat.zero_lt_one, rfl⟩, Nat.le_of_ble_eq_true rfl, ?_⟩
        | refine ⟨Nat.le_of_ble_eq_true rfl, Nat.le_of_ble_eq_true rfl, ?_⟩
        | refine ⟨(by first | exact Nat.zero_lt_one | assumption | omega), (by first | assumption | exact vp_in_nI (by omega) (by omega) | (unfold vp_in; decide)), ?_⟩
        | refine ⟨(by first | exact Nat.zero_lt_one | assumption | omega), rfl, ?_⟩
        | refine ⟨⟨(by first | exact Nat.zero_lt_one | assumption | omega), rfl⟩, Nat.le_of_ble_eq_true rfl, ?_⟩
        | refine ⟨(by first | exact Nat.zero_lt_one | assumption | omega), ?_⟩
        | refine ⟨Or.inl rfl, ?_⟩
        | refine ⟨Or.inr (Or.inl rfl), ?_⟩
        | refine ⟨Or.inr (Or.inr rfl), ?_⟩
        | refine ⟨Or.inr ⟨rfl, (by first | exact Or.inl rfl | exact Or.inr rfl | assumption)⟩, ?_⟩
        | refine ⟨fun h => absurd h (by decide), fun _ => ?_⟩
        | refine ⟨fun _ => ?_, fun h => absurd h (by decide)⟩
        | refine ⟨fun h => ?_, fun h => ?_⟩
        | fail)
      rw [hc, hm, cHp_rank, cHp_pap]
      exact cHp_step hpi
  repeat' (first
    | (rw [hcp]; refine L (n - p) p _ _ (by omega) (Nat.le_refl p) rfl ?_)
    | refine zs k_Ro_handPaper rfl ?_
    | refine ⟨Nat.zero_lt_one, rfl, ?_⟩
    | refine ⟨rfl, ?_⟩
    | refine ⟨⟨Nat.zero_lt_one, rfl⟩, Nat.le_of_ble_eq_true rfl, ?_⟩
    | refine ⟨Nat.le_of_ble_eq_true rfl, Nat.le_of_ble_eq_true rfl, ?_⟩
    | refine ⟨(by first | exact Nat.zero_lt_one | assumption | omega), (by first | assumption | exact vp_in_nI (by omega) (by omega) | (unfold vp_in; decide)), ?_⟩
    | refine ⟨(by first | exact Nat.zero_lt_one | assumption | omega), rfl, ?_⟩
    | refine ⟨⟨(by first | exact Nat.zero_lt_one | assumption | omega), rfl⟩, Nat.le_of_ble_eq_true rfl, ?_⟩
    | refine ⟨(by first | exact Nat.zero_lt_one | assumption | omega), ?_⟩
    | refine ⟨Or.inl rfl, ?_⟩
    | refine ⟨Or.inr (Or.inl rfl), ?_⟩
    | refine ⟨Or.inr (Or.inr rfl), ?_⟩
    | refine ⟨Or.inr ⟨rfl, (by first | exact Or.inl rfl | exact Or.inr rfl | assumption)⟩, ?_⟩
    | refine ⟨fun h => absurd h (by decide), fun _ => ?_⟩
    | refine ⟨fun _ => ?_, fun h => absurd h (by decide)⟩
    | refine ⟨fun h => ?_, fun h => ?_⟩
    | fail)
  funext f a k
  simp only [cHp]
  grind
end
section
/-! ROLL: moveHome -/
def cMvP (μ : zMu) (frm x : Int32) (i f a : Nat) : Prop := f = 17 ∧ a < i ∧ (x.toUInt32 >>> ((nI a).toUInt32 &&& Int32.toUInt32 31)).toInt32 &&& 1 = 1 ∧ μ 17 a 5 = frm
def cMv (μ : zMu) (frm to x : Int32) (i : Nat) : zMu := fun f a k => if f = 17 ∧ a < i ∧ (x.toUInt32 >>> ((nI a).toUInt32 &&& Int32.toUInt32 31)).toInt32 &&& 1 = 1 ∧ μ 17 a 5 = frm ∧ (k = 5 ∨ k = 2 ∨ k = 6) then (if k = 5 then to else if k = 2 then μ 13 0 to.toNatClampNeg else μ 14 0 to.toNatClampNeg) else μ f a k
theorem cMv_o {μ : zMu} {frm to x : Int32} {i f a k : Nat} (hf : f ≠ 17) : cMv μ frm to x i f a k = μ f a k := by
  unfold cMv
  rw [if_neg (by omega)]
theorem cMv_ge {μ : zMu} {frm to x : Int32} {i a k : Nat} (ha : i ≤ a) : cMv μ frm to x i 17 a k = μ 17 a k := by
  unfold cMv
  rw [if_neg (by omega)]
theorem cMv_yes {μ : zMu} {frm to x : Int32} {i : Nat} (hb : zbit x (nI i)) (h5 : μ 17 i 5 = frm) : zu (zu (zu (cMv μ frm to x i) 17 i 5 to) 17 i 2 (μ 13 0 to.toNatClampNeg)) 17 i 6 (μ 14 0 to.toNatClampNeg) = cMv μ frm to x (i + 1) := by
  unfold zbit at hb
  funext f a k
  simp only [zu, cMv]
  grind (splits := 40)
theorem cMv_no {μ : zMu} {frm to x : Int32} {i : Nat} (h : ¬ (zbit x (nI i) ∧ μ 17 i 5 = frm)) : cMv μ frm to x i = cMv μ frm to x (i + 1) := by
  unfold zbit at h
  funext f a k
  simp only [cMv]
  grind (splits := 40)
theorem c_Ro_moveHome {d n : Nat} {μ : zMu} {frm to x : Int32} {K : Option zV → zMu → Prop} (hn : μ 1 0 1 = nI n) (h20 : n ≤ 20) (ht : vp_in to 10) (hK : K none (cMv μ frm to x n)) : Ct (d + 1) m_Ro_moveHome [zR 1 0, zI frm, zI to, zI x] μ K := by
  refine zmeet rfl (Nat.le_of_ble_eq_true rfl) (fun S => ?_)
  have L : ∀ (k i : Nat) (v : Int32) (μ1 : zMu), i + k = n → v = nI i → μ1 = cMv μ frm to x i → zG S (d + 1) m_Ro_moveHome K 3 [some (zR 1 0), some (zI frm), some (zI to), some (zI x), some (zI v)] [] μ1 := by
    intro k
    induction k with
    | zero =>
      intro i v μ1 hi hv hm
      subst hv
      obtain rfl : i = n := by omega
      have hn1 : μ1 1 0 1 = nI i := by rw [hm, cMv_o (by decide)]; exact hn
      refine zs k_Ro_moveHome rfl ?_
      repeat' (first
        | exact zKn hK hm
        | refine zs k_Ro_moveHome rfl ?_
        | refine br_t (by simp (disch := omega) only [hn1, nI_leI, nI_ltI, nI_eq]; omega) ?_
        | refine br_f (by simp (disch := omega) only [hn1, nI_leI, nI_ltI, nI_eq]; omega) ?_
        | refine ⟨Nat.zero_lt_one, rfl, ?_⟩
        | refine ⟨rfl, ?_⟩
        | refine ⟨⟨Nat.zero_lt_one, rfl⟩, Nat.le_of_ble_eq_true rfl, ?_⟩
        | refine ⟨Nat.le_of_ble_eq_true rfl, Nat.le_of_ble_eq_true rfl, ?_⟩
        | refine ⟨(by first | exact Nat.zero_lt_one | assumption | omega), (by first | assumption | exact vp_in_nI (by omega) (by omega) | (unfold vp_in; decide)), ?_⟩
        | refine ⟨(by first | exact Nat.zero_lt_one | assumption | omega), rfl, ?_⟩
        | refine ⟨⟨(by first | exact Nat.zero_lt_one | assumption | omega), rfl⟩, Nat.le_of_ble_eq_true rfl, ?_⟩
        | refine ⟨(by first | exact Nat.zero_lt_one | assumption | omega), ?_⟩
        | refine ⟨Or.inl rfl, ?_⟩
        | refine ⟨Or.inr (Or.inl rfl), ?_⟩
        | refine ⟨Or.inr (Or.inr rfl), ?_⟩
        | refine ⟨Or.inr ⟨rfl, (by first | exact Or.inl rfl | exact Or.inr rfl | assumption)⟩, ?_⟩
        | refine ⟨fun h => absurd h (by decide), fun _ => ?_⟩
        | refine ⟨fun _ => ?_, fun h => absurd h (by decide)⟩
        | refine ⟨fun h => ?_, fun h => ?_⟩
        | fail)
    | succ k ih =>
      intro i v μ1 hi hv hm
      subst hv
      have hn1 : μ1 1 0 1 = nI n := by rw [hm, cMv_o (by decide)]; exact hn
      have hc : (nI i).toNatClampNeg = i := nI_clamp (by omega)
      have h5 : μ1 17 (nI i).toNatClampNeg 5 = μ 17 i 5 := by rw [hc, hm, cMv_ge (Nat.le_refl i)]
      have hc16 : (nI i).toNatClampNeg < 20 := by omega
      refine zs k_Ro_moveHome rfl ?_
      repeat' (first
        | refine c_Ro_isIn (fun hb => ?_) (fun hb => ?_)
        | refine c_Ro_setHome (vp_in_nI (by omega) (by omega)) ht ?_
        | refine ih (i + 1) _ _ (by omega) (by exact nI_1 i) ?_
        | refine zs k_Ro_moveHome rfl ?_
        | refine br_t (by simp (disch := omega) only [hn1, nI_leI, nI_ltI, nI_eq]; omega) ?_
        | refine br_f (by simp (disch := omega) only [hn1, nI_leI, nI_ltI, nI_eq]; omega) ?_
        | refine ⟨Nat.zero_lt_one, rfl, ?_⟩
        | refine ⟨rfl, ?_⟩
        | refine ⟨⟨Nat.zero_lt_one, rfl⟩, Nat.le_of_ble_eq_true rfl, ?_⟩
        | refine ⟨Nat.le_of_ble_eq_true rfl, Nat.le_of_ble_eq_true rfl, ?_⟩
        | refine ⟨(by first | exact Nat.zero_lt_one | assumption | omega), (by first | assumption | exact vp_in_nI (by omega) (by omega) | (unfold vp_in; decide)), ?_⟩
        | refine ⟨(by first | exact Nat.zero_lt_one | assumption | omega), rfl, ?_⟩
        | refine ⟨⟨(by first | exact Nat.zero_lt_one | assumption | omega), rfl⟩, Nat.le_of_ble_eq_true rfl, ?_⟩
        | refine ⟨(by first | exact Nat.zero_lt_one | assumption | omega), ?_⟩
        | refine ⟨Or.inl rfl, ?_⟩
        | refine ⟨Or.inr (Or.inl rfl), ?_⟩
        | refine ⟨Or.inr (Or.inr rfl), ?_⟩
        | refine ⟨Or.inr ⟨rfl, (by first | exact Or.inl rfl | exact Or.inr rfl | assumption)⟩, ?_⟩
        | refine ⟨fun h => absurd h (by decide), fun _ => ?_⟩
        | refine ⟨fun _ => ?_, fun h => absurd h (by decide)⟩
        | refine ⟨fun h => ?_, fun h => ?_⟩
        | fail)
      · rw [hm]
        exact cMv_no (fun g => absurd (h5.trans g.2) (by assumption))
      · rw [hc, hm, cMv_o (by decide), cMv_o (by decide)]
        exact cMv_yes hb (h5.symm.trans (by assumption))
      · rw [hm]
        exact cMv_no (fun g => hb g.1)
  repeat' (first
    | refine L n 0 _ _ (by omega) rfl ?_
    | refine zs k_Ro_moveHome rfl ?_
    | refine ⟨Nat.zero_lt_one, rfl, ?_⟩
    | refine ⟨rfl, ?_⟩
    | refine ⟨⟨Nat.zero_lt_one, rfl⟩, Nat.le_of_ble_eq_true rfl, ?_⟩
    | refine ⟨Nat.le_of_ble_eq_true rfl, Nat.le_of_ble_eq_true rfl, ?_⟩
    | refine ⟨(by first | exact Nat.zero_lt_one | assumption | omega), (by first | assumption | exact vp_in_nI (by omega) (by omega) | (unfold vp_in; decide)), ?_⟩
    | refine ⟨(by first | exact Nat.zero_lt_one | assumption | omega), rfl, ?_⟩
    | refine ⟨⟨(by first | exact Nat.zero_lt_one | assumption | omega), rfl⟩, Nat.le_of_ble_eq_true rfl, ?_⟩
    | refine ⟨(by first | exact Nat.zero_lt_one | assumption | omega), ?_⟩
    | refine ⟨Or.inl rfl, ?_⟩
    | refine ⟨Or.inr (Or.inl rfl), ?_⟩
    | refine ⟨Or.inr (Or.inr rfl), ?_⟩
    | refine ⟨Or.inr ⟨rfl, (by first | exact Or.inl rfl | exact Or.inr rfl | assumption)⟩, ?_⟩
    | refine ⟨fun h => absurd h (by decide), fun _ => ?_⟩
    | refine ⟨fun _ => ?_, fun h => absurd h (by decide)⟩
    | refine ⟨fun h => ?_, fun h => ?_⟩
    | fail)
  funext f a k
  simp only [cMv]
  rw [if_neg (by omega)]
end
section
/-! ROLL: eldestWithPaper -/
def cBest (μ : zMu) : Nat → Int32
  | 0 => -1
  | i + 1 => if ((μ 17 i 4 = 0 ∨ μ 17 i 4 = 5) ∧ μ 10 0 i = 1 ∧ ¬ μ 16 0 i = 0) ∧ (cBest μ i = -1 ∨ (μ 17 i 3 < μ 17 (cBest μ i).toNatClampNeg 3 ∨ (μ 17 i 3 = μ 17 (cBest μ i).toNatClampNeg 3 ∧ μ 16 0 i < μ 16 0 (cBest μ i).toNatClampNeg))) then nI i else cBest μ i
theorem cBest_in {μ : zMu} : ∀ i, i ≤ 20 → cBest μ i = -1 ∨ ∃ b, b < i ∧ cBest μ i = nI b
  | 0, _ => Or.inl rfl
  | i + 1, h => by
    rw [cBest]
    split
    · exact Or.inr ⟨i, by omega, rfl⟩
    · rcases cBest_in (μ := μ) i (by omega) with h1 | ⟨b, h1, h2⟩
      · exact Or.inl h1
      · exact Or.inr ⟨b, by omega, h2⟩
theorem c_Ro_eldestWithPaper {d n : Nat} {μ : zMu} {K : Option zV → zMu → Prop} (hn : μ 1 0 1 = nI n) (h20 : n ≤ 20) (hK : K (some (zI (cBest μ n))) μ) : Ct (d + 2) m_Ro_eldestWithPaper [zR 1 0] μ K := by
  refine zmeet rfl (Nat.le_of_ble_eq_true rfl) (fun S => ?_)
  have L : ∀ (k i : Nat) (b x : Int32), i + k = n → b = cBest μ i → x = nI i → zG S (d + 2) m_Ro_eldestWithPaper K 4 [some (zR 1 0), some (zI b), some (zI x)] [] μ := by
    intro k
    induction k with
    | zero =>
      intro i b x hi hb hx
      subst hb hx
      obtain rfl : i = n := by omega
      refine zs k_Ro_eldestWithPaper rfl ?_
      repeat' (first
        | exact hK
        | refine zs k_Ro_eldestWithPaper rfl ?_
        | refine br_t (by simp (disch := omega) only [hn, nI_leI, nI_ltI, nI_eq]; omega) ?_
        | refine br_f (by simp (disch := omega) only [hn, nI_leI, nI_ltI, nI_eq]; omega) ?_
        | refine ⟨Nat.zero_lt_one, rfl, ?_⟩
        | refine ⟨rfl, ?_⟩
        | refine ⟨⟨Nat.zero_lt_one, rfl⟩, Nat.le_of_ble_eq_true rfl, ?_⟩
        | refine ⟨Nat.le_of_ble_eq_true rfl, Nat.le_of_ble_eq_true rfl, ?_⟩
        | refine ⟨(by first | exact Nat.zero_lt_one | assumption | omega), (by first | assumption | exact vp_in_nI (by omega) (by omega) | (unfold vp_in; decide)), ?_⟩
        | refine ⟨(by first | exact Nat.zero_lt_one | assumption | omega), rfl, ?_⟩
        | refine ⟨⟨(by first | exact Nat.zero_lt_one | assumption | omega), rfl⟩, Nat.le_of_ble_eq_true rfl, ?_⟩
        | refine ⟨(by first | exact Nat.zero_lt_one | assumption | omega), ?_⟩
        | refine ⟨Or.inl rfl, ?_⟩
        | refine ⟨Or.inr (Or.inl rfl), ?_⟩
        | refine ⟨Or.inr (Or.inr rfl), ?_⟩
        | refine ⟨Or.inr ⟨rfl, (by first | exact Or.inl rfl | exact Or.inr rfl | assumption)⟩, ?_⟩
        | refine ⟨fun h => absurd h (by decide), fun _ => ?_⟩
        | refine ⟨fun _ => ?_, fun h => absurd h (by decide)⟩
        | refine ⟨fun h => ?_, fun h => ?_⟩
        | fail)
    | succ k ih =>
      intro i b x hi hb hx
      subst hx
      have hc : (nI i).toNatClampNeg = i := nI_clamp (by omega)
      have hbs : cBest μ (i + 1) = if ((μ 17 i 4 = 0 ∨ μ 17 i 4 = 5) ∧ μ 10 0 i = 1 ∧ ¬ μ 16 0 i = 0) ∧ (b = -1 ∨ (μ 17 i 3 < μ 17 b.toNatClampNeg 3 ∨ (μ 17 i 3 = μ 17 b.toNatClampNeg 3 ∧ μ 16 0 i < μ 16 0 b.toNatClampNeg))) then nI i else b := by rw [hb]; rfl
      have hbv : ¬ b = -1 → vp_in b 20 := fun h => by
        rcases cBest_in (μ := μ) i (by omega) with h1 | ⟨c, h1, h2⟩
        · exact absurd (hb.trans h1) h
        · rw [hb, h2]
          exact vp_in_nI (by omega) (by omega)
      refine zs k_Ro_eldestWithPaper rfl ?_
      repeat' (first
        | refine c_Ro_canBeDean (vp_in_nI (by omega) (by omega)) (fun hd => ?_) (fun hd => ?_)
        | refine c_Ro_isElder (vp_in_nI (by omega) (by omega)) (hbv (by assumption)) (fun he => ?_) (fun he => ?_)
        | refine ih (i + 1) _ _ (by omega) ?_ (by exact nI_1 i)
        | refine zs k_Ro_eldestWithPaper rfl ?_
        | refine br_t (by simp (disch := omega) only [hn, nI_leI, nI_ltI, nI_eq]; omega) ?_
        | refine br_f (by simp (disch := omega) only [hn, nI_leI, nI_ltI, nI_eq]; omega) ?_
        | refine ⟨Nat.zero_lt_one, rfl, ?_⟩
        | refine ⟨rfl, ?_⟩
        | refine ⟨⟨Nat.zero_lt_one, rfl⟩, Nat.le_of_ble_eq_true rfl, ?_⟩
        | refine ⟨Nat.le_of_ble_eq_true rfl, Nat.le_of_ble_eq_true rfl, ?_⟩
        | refine ⟨(by first | exact Nat.zero_lt_one | assumption | omega), (by first | assumption | exact vp_in_nI (by omega) (by omega) | (unfold vp_in; decide)), ?_⟩
        | refine ⟨(by first | exact Nat.zero_lt_one | assumption | omega), rfl, ?_⟩
        | refine ⟨⟨(by first | exact Nat.zero_lt_one | assumption | omega), rfl⟩, Nat.le_of_ble_eq_true rfl, ?_⟩
        | refine ⟨(by first | exact Nat.zero_lt_one | assumption | omega), ?_⟩
        | refine ⟨Or.inl rfl, ?_⟩
        | refine ⟨Or.inr (Or.inl rfl), ?_⟩
        | refine ⟨Or.inr (Or.inr rfl), ?_⟩
        | refine ⟨Or.inr ⟨rfl, (by first | exact Or.inl rfl | exact Or.inr rfl | assumption)⟩, ?_⟩
        | refine ⟨fun h => absurd h (by decide), fun _ => ?_⟩
        | refine ⟨fun _ => ?_, fun h => absurd h (by decide)⟩
        | refine ⟨fun h => ?_, fun h => ?_⟩
        | fail)
      all_goals
        rw [hbs]
        simp only [cDn, cEl, hc] at *
        first
          | rw [if_pos (by first | exact ⟨hd, Or.inl (by assumption)⟩ | exact ⟨hd, Or.inr he⟩)]
          | rw [if_neg (by intro g; first | exact hd g.1 | exact g.2.elim (by assumption) he)]
  repeat' (first
    | exact L n 0 _ _ (by omega) rfl rfl
    | refine zs k_Ro_eldestWithPaper rfl ?_
    | refine ⟨Nat.zero_lt_one, rfl, ?_⟩
    | refine ⟨rfl, ?_⟩
    | refine ⟨⟨Nat.zero_lt_one, rfl⟩, Nat.le_of_ble_eq_true rfl, ?_⟩
    | refine ⟨Nat.le_of_ble_eq_true rfl, Nat.le_of_ble_eq_true rfl, ?_⟩
    | refine ⟨(by first | exact Nat.zero_lt_one | assumption | omega), (by first | assumption | exact vp_in_nI (by omega) (by omega) | (unfold vp_in; decide)), ?_⟩
    | refine ⟨(by first | exact Nat.zero_lt_one | assumption | omega), rfl, ?_⟩
    | refine ⟨⟨(by first | exact Nat.zero_lt_one | assumption | omega), rfl⟩, Nat.le_of_ble_eq_true rfl, ?_⟩
    | refine ⟨(by first | exact Nat.zero_lt_one | assumption | omega), ?_⟩
    | refine ⟨Or.inl rfl, ?_⟩
    | refine ⟨Or.inr (Or.inl rfl), ?_⟩
    | refine ⟨Or.inr (Or.inr rfl), ?_⟩
    | refine ⟨Or.inr ⟨rfl, (by first | exact Or.inl rfl | exact Or.inr rfl | assumption)⟩, ?_⟩
    | refine ⟨fun h => absurd h (by decide), fun _ => ?_⟩
    | refine ⟨fun _ => ?_, fun h => absurd h (by decide)⟩
    | refine ⟨fun h => ?_, fun h => ?_⟩
    | fail)
end
section
/-! CALLS: settleOldest -/
theorem c_Ca_settleOldest {d n : Nat} {μ : zMu} {x y : Int32} {K : Option zV → zMu → Prop} (hn : μ 7 0 0 = nI n) (h40 : n ≤ 40)
    (h1 : ∀ v, v < n → pFst (fun v => decide (μ 46 0 v = x) && decide (μ 45 0 v = y)) n = nI v → K (some (zI 1)) (cRem (zu μ 7 0 0 (nI (n - 1))) v (n - 1)))
    (h0 : pFst (fun v => decide (μ 46 0 v = x) && decide (μ 45 0 v = y)) n = -1 → K (some (zI 0)) μ) : Ct (d + 1) m_Ca_settleOldest [zR 7 0, zI x, zI y] μ K := by
  refine zmeet rfl (Nat.le_of_ble_eq_true rfl) (fun S => ?_)
  have L : ∀ (k i : Nat) (v : Int32), i + k = n → v = nI i → (∀ r, r < i → (decide (μ 46 0 r = x) && decide (μ 45 0 r = y)) = false) → zG S (d + 1) m_Ca_settleOldest K 2 [some (zR 7 0), some (zI x), some (zI y), some (zI v)] [] μ := by
    intro k
    induction k with
    | zero =>
      intro i v hi hv hz
      subst hv
      obtain rfl : i = n := by omega
      have hk := h0 (pFst_none hz)
      refine zs k_Ca_settleOldest rfl ?_
      repeat' (first
        | exact hk
        | refine zs k_Ca_settleOldest rfl ?_
        | refine br_t (by simp (disch := omega) only [hn, nI_leI, nI_ltI, nI_eq]; omega) ?_
        | refine br_f (by simp (disch := omega) only [hn, nI_leI, nI_ltI, nI_eq]; omega) ?_
        | refine ⟨Nat.zero_lt_one, rfl, ?_⟩
        | refine ⟨rfl, ?_⟩
        | refine ⟨⟨Nat.zero_lt_one, rfl⟩, Nat.le_of_ble_eq_true rfl, ?_⟩
        | refine ⟨Nat.le_of_ble_eq_true rfl, Nat.le_of_ble_eq_true rfl, ?_⟩
        | refine ⟨(by first | exact Nat.zero_lt_one | assumption | omega), (by first | assumption | exact vp_in_nI (by omega) (by omega) | (unfold vp_in; decide)), ?_⟩
        | refine ⟨(by first | exact Nat.zero_lt_one | assumption | omega), rfl, ?_⟩
        | refine ⟨⟨(by first | exact Nat.zero_lt_one | assumption | omega), rfl⟩, Nat.le_of_ble_eq_true rfl, ?_⟩
        | refine ⟨(by first | exact Nat.zero_lt_one | assumption | omega), ?_⟩
        | refine ⟨Or.inl rfl, ?_⟩
        | refine ⟨Or.inr (Or.inl rfl), ?_⟩
        | refine ⟨Or.inr (Or.inr rfl), ?_⟩
        | refine ⟨Or.inr ⟨rfl, (by first | exact Or.inl rfl | exact Or.inr rfl | assumption)⟩, ?_⟩
        | refine ⟨fun h => absurd h (by decide), fun _ => ?_⟩
        | refine ⟨fun _ => ?_, fun h => absurd h (by decide)⟩
        | refine ⟨fun h => ?_, fun h => ?_⟩
        | fail)
    | succ k ih =>
      intro i v hi hv hz
      subst hv
      have hc : (nI i).toNatClampNeg = i := nI_clamp (by omega)
      have hn2 : μ 7 0 0 = nI (n - 1 + 1) := by rw [hn, show n - 1 + 1 = n by omega]
      refine zs k_Ca_settleOldest rfl ?_
      repeat' (first
        | refine c_Ca_isBetween (vp_in_nI (by omega) (by omega)) (fun hb => ?_) (fun hb => ?_)
        | refine c_Ca_remove hn2 (by omega) (by omega) ?_
        | refine h1 i (by omega) (pFst_hit hz (by rw [hc] at hb; simp [hb.1, hb.2]) (by omega) (by omega))
        | refine ih (i + 1) _ (by omega) (by exact nI_1 i) (lt_s hz (by rw [hc] at hb; simpa using hb))
        | refine zs k_Ca_settleOldest rfl ?_
        | refine br_t (by simp (disch := omega) only [hn, nI_leI, nI_ltI, nI_eq]; omega) ?_
        | refine br_f (by simp (disch := omega) only [hn, nI_leI, nI_ltI, nI_eq]; omega) ?_
        | refine ⟨Nat.zero_lt_one, rfl, ?_⟩
        | refine ⟨rfl, ?_⟩
        | refine ⟨⟨Nat.zero_lt_one, rfl⟩, Nat.le_of_ble_eq_true rfl, ?_⟩
        | refine ⟨Nat.le_of_ble_eq_true rfl, Nat.le_of_ble_eq_true rfl, ?_⟩
        | refine ⟨(by first | exact Nat.zero_lt_one | assumption | omega), (by first | assumption | exact vp_in_nI (by omega) (by omega) | (unfold vp_in; decide)), ?_⟩
        | refine ⟨(by first | exact Nat.zero_lt_one | assumption | omega), rfl, ?_⟩
        | refine ⟨⟨(by first | exact Nat.zero_lt_one | assumption | omega), rfl⟩, Nat.le_of_ble_eq_true rfl, ?_⟩
        | refine ⟨(by first | exact Nat.zero_lt_one | assumption | omega), ?_⟩
        | refine ⟨Or.inl rfl, ?_⟩
        | refine ⟨Or.inr (Or.inl rfl), ?_⟩
        | refine ⟨Or.inr (Or.inr rfl), ?_⟩
        | refine ⟨Or.inr ⟨rfl, (by first | exact Or.inl rfl | exact Or.inr rfl | assumption)⟩, ?_⟩
        | refine ⟨fun h => absurd h (by decide), fun _ => ?_⟩
        | refine ⟨fun _ => ?_, fun h => absurd h (by decide)⟩
        | refine ⟨fun h => ?_, fun h => ?_⟩
        | fail)
  repeat' (first
    | exact L n 0 _ (by omega) rfl (fun r hr => absurd hr (by omega))
    | refine zs k_Ca_settleOldest rfl ?_
    | refine ⟨Nat.zero_lt_one, rfl, ?_⟩
    | refine ⟨rfl, ?_⟩
    | refine ⟨⟨Nat.zero_lt_one, rfl⟩, Nat.le_of_ble_eq_true rfl, ?_⟩
    | refine ⟨Nat.le_of_ble_eq_true rfl, Nat.le_of_ble_eq_true rfl, ?_⟩
    | refine ⟨(by first | exact Nat.zero_lt_one | assumption | omega), (by first | assumption | exact vp_in_nI (by omega) (by omega) | (unfold vp_in; decide)), ?_⟩
    | refine ⟨(by first | exact Nat.zero_lt_one | assumption | omega), rfl, ?_⟩
    | refine ⟨⟨(by first | exact Nat.zero_lt_one | assumption | omega), rfl⟩, Nat.le_of_ble_eq_true rfl, ?_⟩
    | refine ⟨(by first | exact Nat.zero_lt_one | assumption | omega), ?_⟩
    | refine ⟨Or.inl rfl, ?_⟩
    | refine ⟨Or.inr (Or.inl rfl), ?_⟩
    | refine ⟨Or.inr (Or.inr rfl), ?_⟩
    | refine ⟨Or.inr ⟨rfl, (by first | exact Or.inl rfl | exact Or.inr rfl | assumption)⟩, ?_⟩
    | refine ⟨fun h => absurd h (by decide), fun _ => ?_⟩
    | refine ⟨fun _ => ?_, fun h => absurd h (by decide)⟩
    | refine ⟨fun h => ?_, fun h => ?_⟩
    | fail)
end
section
/-! HALL: small -/
theorem c_Ha_hasTable {d : Nat} {μ : zMu} {x : Int32} {K : Option zV → zMu → Prop} (h1 : 0 ≤ x → x < μ 5 0 0 → K (some (zI 1)) μ) (h0 : ¬ (0 ≤ x ∧ x < μ 5 0 0) → K (some (zI 0)) μ) : Ct d m_Ha_hasTable [zR 5 0, zI x] μ K := by
  refine zmeet rfl (Nat.le_of_ble_eq_true rfl) (fun S => ?_)
  repeat' (first
    | exact h0 (by grind)
    | exact h1 (by grind) (by grind)
    | refine zs k_Ha_hasTable rfl ?_
    | refine ⟨Nat.zero_lt_one, rfl, ?_⟩
    | refine ⟨rfl, ?_⟩
    | refine ⟨⟨Nat.zero_lt_one, rfl⟩, Nat.le_of_ble_eq_true rfl, ?_⟩
    | refine ⟨Nat.le_of_ble_eq_true rfl, Nat.le_of_ble_eq_true rfl, ?_⟩
    | refine ⟨(by first | exact Nat.zero_lt_one | assumption | omega), (by first | assumption | exact vp_in_nI (by omega) (by omega) | (unfold vp_in; decide)), ?_⟩
    | refine ⟨(by first | exact Nat.zero_lt_one | assumption | omega), rfl, ?_⟩
    | refine ⟨⟨(by first | exact Nat.zero_lt_one | assumption | omega), rfl⟩, Nat.le_of_ble_eq_true rfl, ?_⟩
    | refine ⟨(by first | exact Nat.zero_lt_one | assumption | omega), ?_⟩
    | refine ⟨Or.inl rfl, ?_⟩
    | refine ⟨Or.inr (Or.inl rfl), ?_⟩
    | refine ⟨Or.inr (Or.inr rfl), ?_⟩
    | refine ⟨Or.inr ⟨rfl, (by first | exact Or.inl rfl | exact Or.inr rfl | assumption)⟩, ?_⟩
    | refine ⟨fun h => absurd h (by decide), fun _ => ?_⟩
    | refine ⟨fun _ => ?_, fun h => absurd h (by decide)⟩
    | refine ⟨fun h => ?_, fun h => ?_⟩
    | fail)
theorem c_Ha_setFeud {d : Nat} {μ : zMu} {a b v : Int32} {K : Option zV → zMu → Prop} (ha : vp_in a 10) (hb : vp_in b 10) (hK : K (some (zI (μ 36 a.toNatClampNeg b.toNatClampNeg))) (zu (zu μ 36 a.toNatClampNeg b.toNatClampNeg v) 36 b.toNatClampNeg a.toNatClampNeg v)) : Ct d m_Ha_setFeud [zR 5 0, zI a, zI b, zI v] μ K := by
  refine zmeet rfl (Nat.le_of_ble_eq_true rfl) (fun S => ?_)
  have ha2 := vp_lt ha
  have hb2 := vp_lt hb
  repeat' (first
    | exact hK
    | refine zs k_Ha_setFeud rfl ?_
    | refine ⟨Nat.zero_lt_one, rfl, ?_⟩
    | refine ⟨rfl, ?_⟩
    | refine ⟨⟨Nat.zero_lt_one, rfl⟩, Nat.le_of_ble_eq_true rfl, ?_⟩
    | refine ⟨Nat.le_of_ble_eq_true rfl, Nat.le_of_ble_eq_true rfl, ?_⟩
    | refine ⟨(by first | exact Nat.zero_lt_one | assumption | omega), (by first | assumption | exact vp_in_nI (by omega) (by omega) | (unfold vp_in; decide)), ?_⟩
    | refine ⟨(by first | exact Nat.zero_lt_one | assumption | omega), rfl, ?_⟩
    | refine ⟨⟨(by first | exact Nat.zero_lt_one | assumption | omega), rfl⟩, Nat.le_of_ble_eq_true rfl, ?_⟩
    | refine ⟨(by first | exact Nat.zero_lt_one | assumption | omega), ?_⟩
    | refine ⟨Or.inl rfl, ?_⟩
    | refine ⟨Or.inr (Or.inl rfl), ?_⟩
    | refine ⟨Or.inr (Or.inr rfl), ?_⟩
    | refine ⟨Or.inr ⟨rfl, (by first | exact Or.inl rfl | exact Or.inr rfl | assumption)⟩, ?_⟩
    | refine ⟨fun h => absurd h (by decide), fun _ => ?_⟩
    | refine ⟨fun _ => ?_, fun h => absurd h (by decide)⟩
    | refine ⟨fun h => ?_, fun h => ?_⟩
    | fail)
theorem c_Ha_setCost {d : Nat} {μ : zMu} {a b v : Int32} {K : Option zV → zMu → Prop} (ha : vp_in a 8) (hb : vp_in b 8) (hK : K (some (zI (μ 38 a.toNatClampNeg b.toNatClampNeg))) (zu (zu μ 38 a.toNatClampNeg b.toNatClampNeg v) 38 b.toNatClampNeg a.toNatClampNeg v)) : Ct d m_Ha_setCost [zR 5 0, zI a, zI b, zI v] μ K := by
  refine zmeet rfl (Nat.le_of_ble_eq_true rfl) (fun S => ?_)
  have ha2 := vp_lt ha
  have hb2 := vp_lt hb
  repeat' (first
    | exact hK
    | refine zs k_Ha_setCost rfl ?_
    | refine ⟨Nat.zero_lt_one, rfl, ?_⟩
    | refine ⟨rfl, ?_⟩
    | refine ⟨⟨Nat.zero_lt_one, rfl⟩, Nat.le_of_ble_eq_true rfl, ?_⟩
    | refine ⟨Nat.le_of_ble_eq_true rfl, Nat.le_of_ble_eq_true rfl, ?_⟩
    | refine ⟨(by first | exact Nat.zero_lt_one | assumption | omega), (by first | assumption | exact vp_in_nI (by omega) (by omega) | (unfold vp_in; decide)), ?_⟩
    | refine ⟨(by first | exact Nat.zero_lt_one | assumption | omega), rfl, ?_⟩
    | refine ⟨⟨(by first | exact Nat.zero_lt_one | assumption | omega), rfl⟩, Nat.le_of_ble_eq_true rfl, ?_⟩
    | refine ⟨(by first | exact Nat.zero_lt_one | assumption | omega), ?_⟩
    | refine ⟨Or.inl rfl, ?_⟩
    | refine ⟨Or.inr (Or.inl rfl), ?_⟩
    | refine ⟨Or.inr (Or.inr rfl), ?_⟩
    | refine ⟨Or.inr ⟨rfl, (by first | exact Or.inl rfl | exact Or.inr rfl | assumption)⟩, ?_⟩
    | refine ⟨fun h => absurd h (by decide), fun _ => ?_⟩
    | refine ⟨fun _ => ?_, fun h => absurd h (by decide)⟩
    | refine ⟨fun h => ?_, fun h => ?_⟩
    | fail)
theorem c_Ha_tongueOf {d : Nat} {μ : zMu} {p : Int32} {K : Option zV → zMu → Prop} (hp : vp_in p 20) (hK : K (some (zI (μ 17 p.toNatClampNeg 6))) μ) : Ct d m_Ha_tongueOf [zR 5 0, zI p] μ K := by
  refine zmeet rfl (Nat.le_of_ble_eq_true rfl) (fun S => ?_)
  have hp2 := vp_lt hp
  repeat' (first
    | exact hK
    | refine zs k_Ha_tongueOf rfl ?_
    | refine ⟨Nat.zero_lt_one, rfl, ?_⟩
    | refine ⟨rfl, ?_⟩
    | refine ⟨⟨Nat.zero_lt_one, rfl⟩, Nat.le_of_ble_eq_true rfl, ?_⟩
    | refine ⟨Nat.le_of_ble_eq_true rfl, Nat.le_of_ble_eq_true rfl, ?_⟩
    | refine ⟨(by first | exact Nat.zero_lt_one | assumption | omega), (by first | assumption | exact vp_in_nI (by omega) (by omega) | (unfold vp_in; decide)), ?_⟩
    | refine ⟨(by first | exact Nat.zero_lt_one | assumption | omega), rfl, ?_⟩
    | refine ⟨⟨(by first | exact Nat.zero_lt_one | assumption | omega), rfl⟩, Nat.le_of_ble_eq_true rfl, ?_⟩
    | refine ⟨(by first | exact Nat.zero_lt_one | assumption | omega), ?_⟩
    | refine ⟨Or.inl rfl, ?_⟩
    | refine ⟨Or.inr (Or.inl rfl), ?_⟩
    | refine ⟨Or.inr (Or.inr rfl), ?_⟩
    | refine ⟨Or.inr ⟨rfl, (by first | exact Or.inl rfl | exact Or.inr rfl | assumption)⟩, ?_⟩
    | refine ⟨fun h => absurd h (by decide), fun _ => ?_⟩
    | refine ⟨fun _ => ?_, fun h => absurd h (by decide)⟩
    | refine ⟨fun h => ?_, fun h => ?_⟩
    | fail)
theorem c_Ha_homeOf {d : Nat} {μ : zMu} {p : Int32} {K : Option zV → zMu → Prop} (hp : vp_in p 20) (hK : K (some (zI (μ 17 p.toNatClampNeg 5))) μ) : Ct d m_Ha_homeOf [zR 5 0, zI p] μ K := by
  refine zmeet rfl (Nat.le_of_ble_eq_true rfl) (fun S => ?_)
  have hp2 := vp_lt hp
  repeat' (first
    | exact hK
    | refine zs k_Ha_homeOf rfl ?_
    | refine ⟨Nat.zero_lt_one, rfl, ?_⟩
    | refine ⟨rfl, ?_⟩
    | refine ⟨⟨Nat.zero_lt_one, rfl⟩, Nat.le_of_ble_eq_true rfl, ?_⟩
    | refine ⟨Nat.le_of_ble_eq_true rfl, Nat.le_of_ble_eq_true rfl, ?_⟩
    | refine ⟨(by first | exact Nat.zero_lt_one | assumption | omega), (by first | assumption | exact vp_in_nI (by omega) (by omega) | (unfold vp_in; decide)), ?_⟩
    | refine ⟨(by first | exact Nat.zero_lt_one | assumption | omega), rfl, ?_⟩
    | refine ⟨⟨(by first | exact Nat.zero_lt_one | assumption | omega), rfl⟩, Nat.le_of_ble_eq_true rfl, ?_⟩
    | refine ⟨(by first | exact Nat.zero_lt_one | assumption | omega), ?_⟩
    | refine ⟨Or.inl rfl, ?_⟩
    | refine ⟨Or.inr (Or.inl rfl), ?_⟩
    | refine ⟨Or.inr (Or.inr rfl), ?_⟩
    | refine ⟨Or.inr ⟨rfl, (by first | exact Or.inl rfl | exact Or.inr rfl | assumption)⟩, ?_⟩
    | refine ⟨fun h => absurd h (by decide), fun _ => ?_⟩
    | refine ⟨fun _ => ?_, fun h => absurd h (by decide)⟩
    | refine ⟨fun h => ?_, fun h => ?_⟩
    | fail)
theorem c_Ha_sitterAt_40 {d t : Nat} {μ : zMu} {x : Int32} {K : Option zV → zMu → Prop} (ht : t < 4) (hx : x = -1 ∨ vp_in x 12) (hK : K (some (zI (if x = -1 then -1 else μ 40 t x.toNatClampNeg))) μ) : Ct d m_Ha_sitterAt [zR 40 t, zI x] μ K := by
  refine zmeet rfl (Nat.le_of_ble_eq_true rfl) (fun S => ?_)
  by_cases hm : x = -1
  · rw [if_pos hm] at hK
    repeat' (first
      | refine ⟨fun h => absurd hm h, fun _ => ?_⟩
      | exact hK
      | refine zs k_Ha_sitterAt rfl ?_
      | refine ⟨Nat.zero_lt_one, rfl, ?_⟩
      | refine ⟨rfl, ?_⟩
      | refine ⟨⟨Nat.zero_lt_one, rfl⟩, Nat.le_of_ble_eq_true rfl, ?_⟩
      | refine ⟨Nat.le_of_ble_eq_true rfl, Nat.le_of_ble_eq_true rfl, ?_⟩
      | refine ⟨(by first | exact Nat.zero_lt_one | assumption | omega), (by first | assumption | exact vp_in_nI (by omega) (by omega) | (unfold vp_in; decide)), ?_⟩
      | refine ⟨(by first | exact Nat.zero_lt_one | assumption | omega), rfl, ?_⟩
      | refine ⟨⟨(by first | exact Nat.zero_lt_one | assumption | omega), rfl⟩, Nat.le_of_ble_eq_true rfl, ?_⟩
      | refine ⟨(by first | exact Nat.zero_lt_one | assumption | omega), ?_⟩
      | refine ⟨Or.inl rfl, ?_⟩
      | refine ⟨Or.inr (Or.inl rfl), ?_⟩
      | refine ⟨Or.inr (Or.inr rfl), ?_⟩
      | refine ⟨Or.inr ⟨rfl, (by first | exact Or.inl rfl | exact Or.inr rfl | assumption)⟩, ?_⟩
      | refine ⟨fun h => absurd h (by decide), fun _ => ?_⟩
      | refine ⟨fun _ => ?_, fun h => absurd h (by decide)⟩
      | refine ⟨fun h => ?_, fun h => ?_⟩
      | fail)
  · rw [if_neg hm] at hK
    have hv := hx.resolve_left hm
    repeat' (first
      | refine ⟨fun _ => ?_, fun h => absurd h hm⟩
      | exact hK
      | refine zs k_Ha_sitterAt rfl ?_
      | refine ⟨Nat.zero_lt_one, rfl, ?_⟩
      | refine ⟨rfl, ?_⟩
      | refine ⟨⟨Nat.zero_lt_one, rfl⟩, Nat.le_of_ble_eq_true rfl, ?_⟩
      | refine ⟨Nat.le_of_ble_eq_true rfl, Nat.le_of_ble_eq_true rfl, ?_⟩
      | refine ⟨(by first | exact Nat.zero_lt_one | assumption | omega), (by first | assumption | exact vp_in_nI (by omega) (by omega) | (unfold vp_in; decide)), ?_⟩
      | refine ⟨(by first | exact Nat.zero_lt_one | assumption | omega), rfl, ?_⟩
      | refine ⟨⟨(by first | exact Nat.zero_lt_one | assumption | omega), rfl⟩, Nat.le_of_ble_eq_true rfl, ?_⟩
      | refine ⟨(by first | exact Nat.zero_lt_one | assumption | omega), ?_⟩
      | refine ⟨Or.inl rfl, ?_⟩
      | refine ⟨Or.inr (Or.inl rfl), ?_⟩
      | refine ⟨Or.inr (Or.inr rfl), ?_⟩
      | refine ⟨Or.inr ⟨rfl, (by first | exact Or.inl rfl | exact Or.inr rfl | assumption)⟩, ?_⟩
      | refine ⟨fun h => absurd h (by decide), fun _ => ?_⟩
      | refine ⟨fun _ => ?_, fun h => absurd h (by decide)⟩
      | refine ⟨fun h => ?_, fun h => ?_⟩
      | fail)
theorem c_Ha_sitterAt_43 {d t : Nat} {μ : zMu} {x : Int32} {K : Option zV → zMu → Prop}  (hx : x = -1 ∨ vp_in x 12) (hK : K (some (zI (if x = -1 then -1 else μ 43 0 x.toNatClampNeg))) μ) : Ct d m_Ha_sitterAt [zR 43 0, zI x] μ K := by
  refine zmeet rfl (Nat.le_of_ble_eq_true rfl) (fun S => ?_)
  by_cases hm : x = -1
  · rw [if_pos hm] at hK
    repeat' (first
      | refine ⟨fun h => absurd hm h, fun _ => ?_⟩
      | exact hK
      | refine zs k_Ha_sitterAt rfl ?_
      | refine ⟨Nat.zero_lt_one, rfl, ?_⟩
      | refine ⟨rfl, ?_⟩
      | refine ⟨⟨Nat.zero_lt_one, rfl⟩, Nat.le_of_ble_eq_true rfl, ?_⟩
      | refine ⟨Nat.le_of_ble_eq_true rfl, Nat.le_of_ble_eq_true rfl, ?_⟩
      | refine ⟨(by first | exact Nat.zero_lt_one | assumption | omega), (by first | assumption | exact vp_in_nI (by omega) (by omega) | (unfold vp_in; decide)), ?_⟩
      | refine ⟨(by first | exact Nat.zero_lt_one | assumption | omega), rfl, ?_⟩
      | refine ⟨⟨(by first | exact Nat.zero_lt_one | assumption | omega), rfl⟩, Nat.le_of_ble_eq_true rfl, ?_⟩
      | refine ⟨(by first | exact Nat.zero_lt_one | assumption | omega), ?_⟩
      | refine ⟨Or.inl rfl, ?_⟩
      | refine ⟨Or.inr (Or.inl rfl), ?_⟩
      | refine ⟨Or.inr (Or.inr rfl), ?_⟩
      | refine ⟨Or.inr ⟨rfl, (by first | exact Or.inl rfl | exact Or.inr rfl | assumption)⟩, ?_⟩
      | refine ⟨fun h => absurd h (by decide), fun _ => ?_⟩
      | refine ⟨fun _ => ?_, fun h => absurd h (by decide)⟩
      | refine ⟨fun h => ?_, fun h => ?_⟩
      | fail)
  · rw [if_neg hm] at hK
    have hv := hx.resolve_left hm
    repeat' (first
      | refine ⟨fun _ => ?_, fun h => absurd h hm⟩
      | exact hK
      | refine zs k_Ha_sitterAt rfl ?_
      | refine ⟨Nat.zero_lt_one, rfl, ?_⟩
      | refine ⟨rfl, ?_⟩
      | refine ⟨⟨Nat.zero_lt_one, rfl⟩, Nat.le_of_ble_eq_true rfl, ?_⟩
      | refine ⟨Nat.le_of_ble_eq_true rfl, Nat.le_of_ble_eq_true rfl, ?_⟩
      | refine ⟨(by first | exact Nat.zero_lt_one | assumption | omega), (by first | assumption | exact vp_in_nI (by omega) (by omega) | (unfold vp_in; decide)), ?_⟩
      | refine ⟨(by first | exact Nat.zero_lt_one | assumption | omega), rfl, ?_⟩
      | refine ⟨⟨(by first | exact Nat.zero_lt_one | assumption | omega), rfl⟩, Nat.le_of_ble_eq_true rfl, ?_⟩
      | refine ⟨(by first | exact Nat.zero_lt_one | assumption | omega), ?_⟩
      | refine ⟨Or.inl rfl, ?_⟩
      | refine ⟨Or.inr (Or.inl rfl), ?_⟩
      | refine ⟨Or.inr (Or.inr rfl), ?_⟩
      | refine ⟨Or.inr ⟨rfl, (by first | exact Or.inl rfl | exact Or.inr rfl | assumption)⟩, ?_⟩
      | refine ⟨fun h => absurd h (by decide), fun _ => ?_⟩
      | refine ⟨fun _ => ?_, fun h => absurd h (by decide)⟩
      | refine ⟨fun h => ?_, fun h => ?_⟩
      | fail)
end
section
/-! HALL: two who sit -/
theorem c_Ha_talkCost {d : Nat} {μ : zMu} {p q : Int32} {K : Option zV → zMu → Prop} (hp : p = -1 ∨ vp_in p 20) (hq : q = -1 ∨ vp_in q 20) (htp : ¬ p = -1 → vp_in (μ 17 p.toNatClampNeg 6) 8) (htq : ¬ q = -1 → vp_in (μ 17 q.toNatClampNeg 6) 8) (hK : K (some (zI (if p = -1 ∨ q = -1 then 0 else μ 38 (μ 17 p.toNatClampNeg 6).toNatClampNeg (μ 17 q.toNatClampNeg 6).toNatClampNeg))) μ) : Ct (d + 1) m_Ha_talkCost [zR 5 0, zI p, zI q] μ K := by
  refine zmeet rfl (Nat.le_of_ble_eq_true rfl) (fun S => ?_)
  by_cases h1 : p = -1
  · rw [if_pos (Or.inl h1)] at hK
    repeat' (first
      | refine br_t h1 ?_
      | exact hK
      | refine zs k_Ha_talkCost rfl ?_
      | refine ⟨Nat.zero_lt_one, rfl, ?_⟩
      | refine ⟨rfl, ?_⟩
      | refine ⟨⟨Nat.zero_lt_one, rfl⟩, Nat.le_of_ble_eq_true rfl, ?_⟩
      | refine ⟨Nat.le_of_ble_eq_true rfl, Nat.le_of_ble_eq_true rfl, ?_⟩
      | refine ⟨(by first | exact Nat.zero_lt_one | assumption | omega), (by first | assumption | exact vp_in_nI (by omega) (by omega) | (unfold vp_in; decide)), ?_⟩
      | refine ⟨(by first | exact Nat.zero_lt_one | assumption | omega), rfl, ?_⟩
      | refine ⟨⟨(by first | exact Nat.zero_lt_one | assumption | omega), rfl⟩, Nat.le_of_ble_eq_true rfl, ?_⟩
      | refine ⟨(by first | exact Nat.zero_lt_one | assumption | omega), ?_⟩
      | refine ⟨Or.inl rfl, ?_⟩
      | refine ⟨Or.inr (Or.inl rfl), ?_⟩
      | refine ⟨Or.inr (Or.inr rfl), ?_⟩
      | refine ⟨Or.inr ⟨rfl, (by first | exact Or.inl rfl | exact Or.inr rfl | assumption)⟩, ?_⟩
      | refine ⟨fun h => absurd h (by decide), fun _ => ?_⟩
      | refine ⟨fun _ => ?_, fun h => absurd h (by decide)⟩
      | refine ⟨fun h => ?_, fun h => ?_⟩
      | fail)
  · by_cases h2 : q = -1
    · rw [if_pos (Or.inr h2)] at hK
      repeat' (first
        | refine br_f h1 ?_
        | refine ⟨fun h => absurd h2 h, fun _ => ?_⟩
        | exact hK
        | refine zs k_Ha_talkCost rfl ?_
        | refine ⟨Nat.zero_lt_one, rfl, ?_⟩
        | refine ⟨rfl, ?_⟩
        | refine ⟨⟨Nat.zero_lt_one, rfl⟩, Nat.le_of_ble_eq_true rfl, ?_⟩
        | refine ⟨Nat.le_of_ble_eq_true rfl, Nat.le_of_ble_eq_true rfl, ?_⟩
        | refine ⟨(by first | exact Nat.zero_lt_one | assumption | omega), (by first | assumption | exact vp_in_nI (by omega) (by omega) | (unfold vp_in; decide)), ?_⟩
        | refine ⟨(by first | exact Nat.zero_lt_one | assumption | omega), rfl, ?_⟩
        | refine ⟨⟨(by first | exact Nat.zero_lt_one | assumption | omega), rfl⟩, Nat.le_of_ble_eq_true rfl, ?_⟩
        | refine ⟨(by first | exact Nat.zero_lt_one | assumption | omega), ?_⟩
        | refine ⟨Or.inl rfl, ?_⟩
        | refine ⟨Or.inr (Or.inl rfl), ?_⟩
        | refine ⟨Or.inr (Or.inr rfl), ?_⟩
        | refine ⟨Or.inr ⟨rfl, (by first | exact Or.inl rfl | exact Or.inr rfl | assumption)⟩, ?_⟩
        | refine ⟨fun h => absurd h (by decide), fun _ => ?_⟩
        | refine ⟨fun _ => ?_, fun h => absurd h (by decide)⟩
        | refine ⟨fun h => ?_, fun h => ?_⟩
        | fail)
    · rw [if_neg (fun h => h.elim h1 h2)] at hK
      have g1 := htp h1
      have g2 := htq h2
      have g3 := vp_lt g1
      repeat' (first
        | refine br_f h1 ?_
        | refine ⟨fun _ => ?_, fun h => absurd h h2⟩
        | refine c_Ha_tongueOf (hp.resolve_left h1) ?_
        | refine c_Ha_tongueOf (hq.resolve_left h2) ?_
        | exact hK
        | refine zs k_Ha_talkCost rfl ?_
        | refine ⟨Nat.zero_lt_one, rfl, ?_⟩
        | refine ⟨rfl, ?_⟩
        | refine ⟨⟨Nat.zero_lt_one, rfl⟩, Nat.le_of_ble_eq_true rfl, ?_⟩
        | refine ⟨Nat.le_of_ble_eq_true rfl, Nat.le_of_ble_eq_true rfl, ?_⟩
        | refine ⟨(by first | exact Nat.zero_lt_one | assumption | omega), (by first | assumption | exact vp_in_nI (by omega) (by omega) | (unfold vp_in; decide)), ?_⟩
        | refine ⟨(by first | exact Nat.zero_lt_one | assumption | omega), rfl, ?_⟩
        | refine ⟨⟨(by first | exact Nat.zero_lt_one | assumption | omega), rfl⟩, Nat.le_of_ble_eq_true rfl, ?_⟩
        | refine ⟨(by first | exact Nat.zero_lt_one | assumption | omega), ?_⟩
        | refine ⟨Or.inl rfl, ?_⟩
        | refine ⟨Or.inr (Or.inl rfl), ?_⟩
        | refine ⟨Or.inr (Or.inr rfl), ?_⟩
        | refine ⟨Or.inr ⟨rfl, (by first | exact Or.inl rfl | exact Or.inr rfl | assumption)⟩, ?_⟩
        | refine ⟨fun h => absurd h (by decide), fun _ => ?_⟩
        | refine ⟨fun _ => ?_, fun h => absurd h (by decide)⟩
        | refine ⟨fun h => ?_, fun h => ?_⟩
        | fail)
theorem c_Ha_areFeuding {d : Nat} {μ : zMu} {p q : Int32} {K : Option zV → zMu → Prop} (hp : p = -1 ∨ vp_in p 20) (hq : q = -1 ∨ vp_in q 20) (htp : ¬ p = -1 → vp_in (μ 17 p.toNatClampNeg 5) 10) (htq : ¬ q = -1 → vp_in (μ 17 q.toNatClampNeg 5) 10) (hy : (¬ p = -1 ∧ ¬ q = -1 ∧ μ 36 (μ 17 p.toNatClampNeg 5).toNatClampNeg (μ 17 q.toNatClampNeg 5).toNatClampNeg = 1) → K (some (zI 1)) μ) (hno : ¬ (¬ p = -1 ∧ ¬ q = -1 ∧ μ 36 (μ 17 p.toNatClampNeg 5).toNatClampNeg (μ 17 q.toNatClampNeg 5).toNatClampNeg = 1) → K (some (zI 0)) μ) : Ct (d + 1) m_Ha_areFeuding [zR 5 0, zI p, zI q] μ K := by
  refine zmeet rfl (Nat.le_of_ble_eq_true rfl) (fun S => ?_)
  by_cases h1 : p = -1
  · have hk := hno (fun h => h.1 h1)
    repeat' (first
      | refine br_t h1 ?_
      | exact hk
      | refine zs k_Ha_areFeuding rfl ?_
      | refine ⟨Nat.zero_lt_one, rfl, ?_⟩
      | refine ⟨rfl, ?_⟩
      | refine ⟨⟨Nat.zero_lt_one, rfl⟩, Nat.le_of_ble_eq_true rfl, ?_⟩
      | refine ⟨Nat.le_of_ble_eq_true rfl, Nat.le_of_ble_eq_true rfl, ?_⟩
      | refine ⟨(by first | exact Nat.zero_lt_one | assumption | omega), (by first | assumption | exact vp_in_nI (by omega) (by omega) | (unfold vp_in; decide)), ?_⟩
      | refine ⟨(by first | exact Nat.zero_lt_one | assumption | omega), rfl, ?_⟩
      | refine ⟨⟨(by first | exact Nat.zero_lt_one | assumption | omega), rfl⟩, Nat.le_of_ble_eq_true rfl, ?_⟩
      | refine ⟨(by first | exact Nat.zero_lt_one | assumption | omega), ?_⟩
      | refine ⟨Or.inl rfl, ?_⟩
      | refine ⟨Or.inr (Or.inl rfl), ?_⟩
      | refine ⟨Or.inr (Or.inr rfl), ?_⟩
      | refine ⟨Or.inr ⟨rfl, (by first | exact Or.inl rfl | exact Or.inr rfl | assumption)⟩, ?_⟩
      | refine ⟨fun h => absurd h (by decide), fun _ => ?_⟩
      | refine ⟨fun _ => ?_, fun h => absurd h (by decide)⟩
      | refine ⟨fun h => ?_, fun h => ?_⟩
      | fail)
  · by_cases h2 : q = -1
    · have hk := hno (fun h => h.2.1 h2)
      repeat' (first
        | refine br_f h1 ?_
        | refine br_t h2 ?_
        | exact hk
        | refine zs k_Ha_areFeuding rfl ?_
        | refine ⟨Nat.zero_lt_one, rfl, ?_⟩
        | refine ⟨rfl, ?_⟩
        | refine ⟨⟨Nat.zero_lt_one, rfl⟩, Nat.le_of_ble_eq_true rfl, ?_⟩
        | refine ⟨Nat.le_of_ble_eq_true rfl, Nat.le_of_ble_eq_true rfl, ?_⟩
        | refine ⟨(by first | exact Nat.zero_lt_one | assumption | omega), (by first | assumption | exact vp_in_nI (by omega) (by omega) | (unfold vp_in; decide)), ?_⟩
        | refine ⟨(by first | exact Nat.zero_lt_one | assumption | omega), rfl, ?_⟩
        | refine ⟨⟨(by first | exact Nat.zero_lt_one | assumption | omega), rfl⟩, Nat.le_of_ble_eq_true rfl, ?_⟩
        | refine ⟨(by first | exact Nat.zero_lt_one | assumption | omega), ?_⟩
        | refine ⟨Or.inl rfl, ?_⟩
        | refine ⟨Or.inr (Or.inl rfl), ?_⟩
        | refine ⟨Or.inr (Or.inr rfl), ?_⟩
        | refine ⟨Or.inr ⟨rfl, (by first | exact Or.inl rfl | exact Or.inr rfl | assumption)⟩, ?_⟩
        | refine ⟨fun h => absurd h (by decide), fun _ => ?_⟩
        | refine ⟨fun _ => ?_, fun h => absurd h (by decide)⟩
        | refine ⟨fun h => ?_, fun h => ?_⟩
        | fail)
    · have g1 := htp h1
      have g2 := htq h2
      have g3 := vp_lt g1
      repeat' (first
        | refine br_f h1 ?_
        | refine br_f h2 ?_
        | refine c_Ha_homeOf (hp.resolve_left h1) ?_
        | refine c_Ha_homeOf (hq.resolve_left h2) ?_
        | exact hy ⟨h1, h2, (by assumption)⟩
        | exact hno (fun h => absurd h.2.2 (by assumption))
        | refine zs k_Ha_areFeuding rfl ?_
        | refine ⟨Nat.zero_lt_one, rfl, ?_⟩
        | refine ⟨rfl, ?_⟩
        | refine ⟨⟨Nat.zero_lt_one, rfl⟩, Nat.le_of_ble_eq_true rfl, ?_⟩
        | refine ⟨Nat.le_of_ble_eq_true rfl, Nat.le_of_ble_eq_true rfl, ?_⟩
        | refine ⟨(by first | exact Nat.zero_lt_one | assumption | omega), (by first | assumption | exact vp_in_nI (by omega) (by omega) | (unfold vp_in; decide)), ?_⟩
        | refine ⟨(by first | exact Nat.zero_lt_one | assumption | omega), rfl, ?_⟩
        | refine ⟨⟨(by first | exact Nat.zero_lt_one | assumption | omega), rfl⟩, Nat.le_of_ble_eq_true rfl, ?_⟩
        | refine ⟨(by first | exact Nat.zero_lt_one | assumption | omega), ?_⟩
        | refine ⟨Or.inl rfl, ?_⟩
        | refine ⟨Or.inr (Or.inl rfl), ?_⟩
        | refine ⟨Or.inr (Or.inr rfl), ?_⟩
        | refine ⟨Or.inr ⟨rfl, (by first | exact Or.inl rfl | exact Or.inr rfl | assumption)⟩, ?_⟩
        | refine ⟨fun h => absurd h (by decide), fun _ => ?_⟩
        | refine ⟨fun _ => ?_, fun h => absurd h (by decide)⟩
        | refine ⟨fun h => ?_, fun h => ?_⟩
        | fail)
end
section
/-! CALLS: the visits as a list -/
abbrev zVt : Type := Int32 × Int32 × Int32
def cVs (μ : zMu) (L : List zVt) : Prop := μ 7 0 0 = nI L.length ∧ L.length ≤ 40 ∧ ∀ (k : Nat) (e : zVt), L[k]? = some e → μ 46 0 k = e.1 ∧ μ 45 0 k = e.2.1 ∧ μ 47 0 k = e.2.2
theorem cVs_rem {μ : zMu} {L : List zVt} {v : Nat} (h : cVs μ L) (hv : v < L.length) : cVs (cRem (zu μ 7 0 0 (nI (L.length - 1))) v (L.length - 1)) (L.eraseIdx v) := by
  obtain ⟨h1, h2, h3⟩ := h
  have hl : (L.eraseIdx v).length = L.length - 1 := List.length_eraseIdx_of_lt hv
  refine ⟨by rw [hl]; rfl, by omega, fun k e he => ?_⟩
  have hk : k < L.length - 1 := by
    have := (List.getElem?_eq_some_iff.mp he).1
    omega
  rw [List.getElem?_eraseIdx] at he
  have e46 : cRem (zu μ 7 0 0 (nI (L.length - 1))) v (L.length - 1) 46 0 k = if v ≤ k ∧ k < L.length - 1 then μ 46 0 (k + 1) else μ 46 0 k := rfl
  have e45 : cRem (zu μ 7 0 0 (nI (L.length - 1))) v (L.length - 1) 45 0 k = if v ≤ k ∧ k < L.length - 1 then μ 45 0 (k + 1) else μ 45 0 k := rfl
  have e47 : cRem (zu μ 7 0 0 (nI (L.length - 1))) v (L.length - 1) 47 0 k = if v ≤ k ∧ k < L.length - 1 then μ 47 0 (k + 1) else μ 47 0 k := rfl
  rw [e46, e45, e47]
  by_cases hvk : k < v
  · rw [if_pos hvk] at he
    rw [if_neg (by omega), if_neg (by omega), if_neg (by omega)]
    exact h3 k e he
  · rw [if_neg hvk] at he
    rw [if_pos (by omega), if_pos (by omega), if_pos (by omega)]
    exact h3 (k + 1) e he
/-- only these families change -/
def zOnl (fs : List Nat) (μ μ' : zMu) : Prop := ∀ f, f ∉ fs → μ' f = μ f
theorem cRem_onl {μ : zMu} {x : Int32} {v n : Nat} : zOnl [7, 45, 46, 47] μ (cRem (zu μ 7 0 0 x) v n) ∧ cRem (zu μ 7 0 0 x) v n 7 0 1 = μ 7 0 1 := by
  refine ⟨fun f hf => ?_, rfl⟩
  simp only [List.mem_cons, List.not_mem_nil, or_false, not_or] at hf
  funext a b
  simp only [cRem, zu]
  rw [if_neg (by omega), if_neg (by omega)]
def pMt (x y : Int32) (e : zVt) : Bool := decide (e.1 = x) && decide (e.2.1 = y)
theorem c_Ca_settleAll {d : Nat} {μ : zMu} {x y : Int32} {L : List zVt} {K : Option zV → zMu → Prop} (hL : cVs μ L)
    (hK : ∀ μ', zOnl [7, 45, 46, 47] μ μ' → μ' 7 0 1 = μ 7 0 1 → cVs μ' (L.filter (fun e => !pMt x y e)) → K (some (zI (nI (L.countP (pMt x y))))) μ') : Ct (d + 1) m_Ca_settleAll [zR 7 0, zI x, zI y] μ K := by
  refine zmeet rfl (Nat.le_of_ble_eq_true rfl) (fun S => ?_)
  have hl40 := hL.2.1
  have H : ∀ (i : Nat) (v s : Int32) (μ1 : zMu), i ≤ L.length → v = nI i - 1 → s = nI ((L.drop i).countP (pMt x y)) → zOnl [7, 45, 46, 47] μ μ1 → μ1 7 0 1 = μ 7 0 1 → cVs μ1 (L.take i ++ (L.drop i).filter (fun e => !pMt x y e)) → zG S (d + 1) m_Ca_settleAll K 10 [some (zR 7 0), some (zI x), some (zI y), some (zI s), some (zI v)] [] μ1 := by
    intro i
    induction i with
    | zero =>
      intro v s μ1 hi hv hs ho h71 hc
      subst hv hs
      have hk := hK μ1 ho h71 (by simpa using hc)
      refine zs k_Ca_settleAll rfl ?_
      repeat' (first
        | refine br_t (by decide) ?_
        | exact hk
        | refine zs k_Ca_settleAll rfl ?_
        | refine ⟨Nat.zero_lt_one, rfl, ?_⟩
        | refine ⟨rfl, ?_⟩
        | refine ⟨⟨Nat.zero_lt_one, rfl⟩, Nat.le_of_ble_eq_true rfl, ?_⟩
        | refine ⟨Nat.le_of_ble_eq_true rfl, Nat.le_of_ble_eq_true rfl, ?_⟩
        | refine ⟨(by first | exact Nat.zero_lt_one | assumption | omega), (by first | assumption | exact vp_in_nI (by omega) (by omega) | (unfold vp_in; decide)), ?_⟩
        | refine ⟨(by first | exact Nat.zero_lt_one | assumption | omega), rfl, ?_⟩
        | refine ⟨⟨(by first | exact Nat.zero_lt_one | assumption | omega), rfl⟩, Nat.le_of_ble_eq_true rfl, ?_⟩
        | refine ⟨(by first | exact Nat.zero_lt_one | assumption | omega), ?_⟩
        | refine ⟨Or.inl rfl, ?_⟩
        | refine ⟨Or.inr (Or.inl rfl), ?_⟩
        | refine ⟨Or.inr (Or.inr rfl), ?_⟩
        | refine ⟨Or.inr ⟨rfl, (by first | exact Or.inl rfl | exact Or.inr rfl | assumption)⟩, ?_⟩
        | refine ⟨fun h => absurd h (by decide), fun _ => ?_⟩
        | refine ⟨fun _ => ?_, fun h => absurd h (by decide)⟩
        | refine ⟨fun h => ?_, fun h => ?_⟩
        | fail)
    | succ j ih =>
      intro v s μ1 hi hv hs ho h71 hc
      subst hv
      rw [nI_pred]
      have hj : j < L.length := by omega
      have hcl : (nI j).toNatClampNeg = j := nI_clamp (by omega)
      have hd : L.drop j = L[j] :: L.drop (j + 1) := List.drop_eq_getElem_cons hj
      have ht : L.take (j + 1) = L.take j ++ [L[j]] := by rw [List.take_add_one, List.getElem?_eq_getElem hj]; rfl
      have hat : (L.take (j + 1) ++ (L.drop (j + 1)).filter (fun e => !pMt x y e))[j]? = some L[j] := by
        rw [ht, List.append_assoc, List.getElem?_append_right (by rw [List.length_take]; omega), List.length_take, Nat.min_eq_left (by omega), Nat.sub_self]
        rfl
      have hrow := hc.2.2 j _ hat
      have hm : pMt x y L[j] = true ↔ (μ1 46 0 (nI j).toNatClampNeg = x ∧ μ1 45 0 (nI j).toNatClampNeg = y) := by
        rw [hcl, hrow.1, hrow.2.1]
        simp [pMt]
      have hlt : j < (L.take (j + 1) ++ (L.drop (j + 1)).filter (fun e => !pMt x y e)).length := (List.getElem?_eq_some_iff.mp hat).1
      have hlen : μ1 7 0 0 = nI ((L.take (j + 1) ++ (L.drop (j + 1)).filter (fun e => !pMt x y e)).length - 1 + 1) := by
        rw [hc.1]
        congr 1
        omega
      have hc40 := hc.2.1
      have her : (L.take (j + 1) ++ (L.drop (j + 1)).filter (fun e => !pMt x y e)).eraseIdx j = L.take j ++ (L.drop (j + 1)).filter (fun e => !pMt x y e) := by
        rw [ht, List.append_assoc, List.eraseIdx_append_of_length_le (by rw [List.length_take]; omega), List.length_take, Nat.min_eq_left (by omega), Nat.sub_self]
        rfl
      refine zs k_Ca_settleAll rfl ?_
      repeat' (first
        | refine br_f (nI_pos (by omega)) ?_
        | refine c_Ca_isBetween (vp_in_nI (by omega) (by omega)) (fun hb => ?_) (fun hb => ?_)
        | refine c_Ca_remove hlen (by omega) (by omega) ?_
        | refine ih _ _ _ (by omega) (by exact i32_m1 _) ?_ ?_ ?_ ?_
        | refine zs k_Ca_settleAll rfl ?_
        | refine ⟨Nat.zero_lt_one, rfl, ?_⟩
        | refine ⟨rfl, ?_⟩
        | refine ⟨⟨Nat.zero_lt_one, rfl⟩, Nat.le_of_ble_eq_true rfl, ?_⟩
        | refine ⟨Nat.le_of_ble_eq_true rfl, Nat.le_of_ble_eq_true rfl, ?_⟩
        | refine ⟨(by first | exact Nat.zero_lt_one | assumption | omega), (by first | assumption | exact vp_in_nI (by omega) (by omega) | (unfold vp_in; decide)), ?_⟩
        | refine ⟨(by first | exact Nat.zero_lt_one | assumption | omega), rfl, ?_⟩
        | refine ⟨⟨(by first | exact Nat.zero_lt_one | assumption | omega), rfl⟩, Nat.le_of_ble_eq_true rfl, ?_⟩
        | refine ⟨(by first | exact Nat.zero_lt_one | assumption | omega), ?_⟩
        | refine ⟨Or.inl rfl, ?_⟩
        | refine ⟨Or.inr (Or.inl rfl), ?_⟩
        | refine ⟨Or.inr (Or.inr rfl), ?_⟩
        | refine ⟨Or.inr ⟨rfl, (by first | exact Or.inl rfl | exact Or.inr rfl | assumption)⟩, ?_⟩
        | refine ⟨fun h => absurd h (by decide), fun _ => ?_⟩
        | refine ⟨fun _ => ?_, fun h => absurd h (by decide)⟩
        | refine ⟨fun h => ?_, fun h => ?_⟩
        | fail)
      · rw [hs, hd, List.countP_cons_of_pos (hm.mpr hb)]
        exact nI_1 _
      · intro f hf
        rw [cRem_onl.1 f hf]
        exact ho f hf
      · exact cRem_onl.2.trans h71
      · rw [hd, List.filter_cons_of_neg (by simp [hm.mpr hb]), ← her]
        exact cVs_rem hc hlt
      · rw [hs, hd, List.countP_cons_of_neg (fun h => hb (hm.mp h))]
      · exact ho
      · exact h71
      · have hf : pMt x y L[j] = false := by
          cases h : pMt x y L[j] with
          | false => rfl
          | true => exact absurd (hm.mp h) hb
        rw [hd, List.filter_cons_of_pos (by simp [hf])]
        rw [ht, List.append_assoc] at hc
        exact hc
  have hn := hL.1
  repeat' (first
    | refine H L.length _ _ _ (Nat.le_refl _) (by rw [hn]) ?_ (fun _ _ => rfl) rfl ?_
    | refine zs k_Ca_settleAll rfl ?_
    | refine ⟨Nat.zero_lt_one, rfl, ?_⟩
    | refine ⟨rfl, ?_⟩
    | refine ⟨⟨Nat.zero_lt_one, rfl⟩, Nat.le_of_ble_eq_true rfl, ?_⟩
    | refine ⟨Nat.le_of_ble_eq_true rfl, Nat.le_of_ble_eq_true rfl, ?_⟩
    | refine ⟨(by first | exact Nat.zero_lt_one | assumption | omega), (by first | assumption | exact vp_in_nI (by omega) (by omega) | (unfold vp_in; decide)), ?_⟩
    | refine ⟨(by first | exact Nat.zero_lt_one | assumption | omega), rfl, ?_⟩
    | refine ⟨⟨(by first | exact Nat.zero_lt_one | assumption | omega), rfl⟩, Nat.le_of_ble_eq_true rfl, ?_⟩
    | refine ⟨(by first | exact Nat.zero_lt_one | assumption | omega), ?_⟩
    | refine ⟨Or.inl rfl, ?_⟩
    | refine ⟨Or.inr (Or.inl rfl), ?_⟩
    | refine ⟨Or.inr (Or.inr rfl), ?_⟩
    | refine ⟨Or.inr ⟨rfl, (by first | exact Or.inl rfl | exact Or.inr rfl | assumption)⟩, ?_⟩
    | refine ⟨fun h => absurd h (by decide), fun _ => ?_⟩
    | refine ⟨fun _ => ?_, fun h => absurd h (by decide)⟩
    | refine ⟨fun h => ?_, fun h => ?_⟩
    | fail)
  · rw [List.drop_length]
    rfl
  · rw [List.take_length, List.drop_length]
    simpa using hL
end

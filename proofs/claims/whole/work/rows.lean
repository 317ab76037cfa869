section
-- ===== PART A: goes FIRST, ahead of the names: the tables' words, and 'selects' of the private methods out of them =====
/-- a private method of a class that the tables say can be made, by its rows of tables_1 -/
def lw_okq (q : MethodName × Nat) : Prop := (q.1.cls ≠ "java/lang/invoke/MethodHandle" ∧ q.1.cls ≠ "java/lang/invoke/VarHandle") ∧ Cond.instantiable q.1.cls q.2 ∈ tables_1 ∧ Cond.privateMethod q.1 ∈ tables_1 ∧ Cond.instanceMethod q.1 ∈ tables_1
theorem lw_p0 : lw_okq (⟨"VotedMap", "found", "(I)I"⟩, 9) := ⟨⟨by decide +kernel, by decide +kernel⟩, List.mem_of_getElem? (i := 14) (by decide +kernel), List.mem_of_getElem? (i := 289) (by decide +kernel), List.mem_of_getElem? (i := 290) (by decide +kernel)⟩
theorem lw_p1 : lw_okq (⟨"VotedMap", "clean", "(I)I"⟩, 9) := ⟨⟨by decide +kernel, by decide +kernel⟩, List.mem_of_getElem? (i := 14) (by decide +kernel), List.mem_of_getElem? (i := 301) (by decide +kernel), List.mem_of_getElem? (i := 302) (by decide +kernel)⟩
theorem lw_p2 : lw_okq (⟨"VotedMap$Tape", "readHead", "(LVotedMap$City;)Z"⟩, 6) := ⟨⟨by decide +kernel, by decide +kernel⟩, List.mem_of_getElem? (i := 24) (by decide +kernel), List.mem_of_getElem? (i := 349) (by decide +kernel), List.mem_of_getElem? (i := 350) (by decide +kernel)⟩
theorem lw_p3 : lw_okq (⟨"VotedMap$Tape", "takeSign", "(I)Z"⟩, 6) := ⟨⟨by decide +kernel, by decide +kernel⟩, List.mem_of_getElem? (i := 24) (by decide +kernel), List.mem_of_getElem? (i := 353) (by decide +kernel), List.mem_of_getElem? (i := 354) (by decide +kernel)⟩
theorem lw_p4 : lw_okq (⟨"VotedMap$Tape", "hasFault", "(II)Z"⟩, 6) := ⟨⟨by decide +kernel, by decide +kernel⟩, List.mem_of_getElem? (i := 24) (by decide +kernel), List.mem_of_getElem? (i := 357) (by decide +kernel), List.mem_of_getElem? (i := 358) (by decide +kernel)⟩
theorem lw_p5 : lw_okq (⟨"VotedMap$Tape", "takeNumber", "(II)Z"⟩, 6) := ⟨⟨by decide +kernel, by decide +kernel⟩, List.mem_of_getElem? (i := 24) (by decide +kernel), List.mem_of_getElem? (i := 361) (by decide +kernel), List.mem_of_getElem? (i := 362) (by decide +kernel)⟩
theorem lw_p6 : lw_okq (⟨"VotedMap$Tape", "readGates", "(LVotedMap$City;)Z"⟩, 6) := ⟨⟨by decide +kernel, by decide +kernel⟩, List.mem_of_getElem? (i := 24) (by decide +kernel), List.mem_of_getElem? (i := 368) (by decide +kernel), List.mem_of_getElem? (i := 369) (by decide +kernel)⟩
theorem lw_p7 : lw_okq (⟨"VotedMap$Tape", "readGate", "(LVotedMap$City;I)Z"⟩, 6) := ⟨⟨by decide +kernel, by decide +kernel⟩, List.mem_of_getElem? (i := 24) (by decide +kernel), List.mem_of_getElem? (i := 372) (by decide +kernel), List.mem_of_getElem? (i := 373) (by decide +kernel)⟩
theorem lw_p8 : lw_okq (⟨"VotedMap$Tape", "readPeople", "(LVotedMap$City;)Z"⟩, 6) := ⟨⟨by decide +kernel, by decide +kernel⟩, List.mem_of_getElem? (i := 24) (by decide +kernel), List.mem_of_getElem? (i := 376) (by decide +kernel), List.mem_of_getElem? (i := 377) (by decide +kernel)⟩
theorem lw_p9 : lw_okq (⟨"VotedMap$Tape", "readPerson", "(LVotedMap$City;I)Z"⟩, 6) := ⟨⟨by decide +kernel, by decide +kernel⟩, List.mem_of_getElem? (i := 24) (by decide +kernel), List.mem_of_getElem? (i := 383) (by decide +kernel), List.mem_of_getElem? (i := 384) (by decide +kernel)⟩
theorem lw_p10 : lw_okq (⟨"VotedMap$City", "measureFor", "(I)V"⟩, 17) := ⟨⟨by decide +kernel, by decide +kernel⟩, List.mem_of_getElem? (i := 53) (by decide +kernel), List.mem_of_getElem? (i := 435) (by decide +kernel), List.mem_of_getElem? (i := 436) (by decide +kernel)⟩
theorem lw_p11 : lw_okq (⟨"VotedMap$City", "endsOf", "(I)I"⟩, 17) := ⟨⟨by decide +kernel, by decide +kernel⟩, List.mem_of_getElem? (i := 53) (by decide +kernel), List.mem_of_getElem? (i := 439) (by decide +kernel), List.mem_of_getElem? (i := 440) (by decide +kernel)⟩
theorem lw_p12 : lw_okq (⟨"VotedMap$City", "isOpen", "(I)Z"⟩, 17) := ⟨⟨by decide +kernel, by decide +kernel⟩, List.mem_of_getElem? (i := 53) (by decide +kernel), List.mem_of_getElem? (i := 444) (by decide +kernel), List.mem_of_getElem? (i := 445) (by decide +kernel)⟩
theorem lw_p13 : lw_okq (⟨"VotedMap$City", "isForOpen", "(II)Z"⟩, 17) := ⟨⟨by decide +kernel, by decide +kernel⟩, List.mem_of_getElem? (i := 53) (by decide +kernel), List.mem_of_getElem? (i := 452) (by decide +kernel), List.mem_of_getElem? (i := 453) (by decide +kernel)⟩
theorem lw_p14 : lw_okq (⟨"VotedMap$City", "voiceOf", "(II)I"⟩, 17) := ⟨⟨by decide +kernel, by decide +kernel⟩, List.mem_of_getElem? (i := 53) (by decide +kernel), List.mem_of_getElem? (i := 460) (by decide +kernel), List.mem_of_getElem? (i := 461) (by decide +kernel)⟩
theorem lw_p15 : lw_okq (⟨"VotedMap$City", "isWalledIn", "(I)Z"⟩, 17) := ⟨⟨by decide +kernel, by decide +kernel⟩, List.mem_of_getElem? (i := 53) (by decide +kernel), List.mem_of_getElem? (i := 471) (by decide +kernel), List.mem_of_getElem? (i := 472) (by decide +kernel)⟩
def lw_privs_1 : List (MethodName × Nat) := [(⟨"VotedMap", "found", "(I)I"⟩, 9), (⟨"VotedMap", "clean", "(I)I"⟩, 9), (⟨"VotedMap$Tape", "readHead", "(LVotedMap$City;)Z"⟩, 6), (⟨"VotedMap$Tape", "takeSign", "(I)Z"⟩, 6), (⟨"VotedMap$Tape", "hasFault", "(II)Z"⟩, 6), (⟨"VotedMap$Tape", "takeNumber", "(II)Z"⟩, 6), (⟨"VotedMap$Tape", "readGates", "(LVotedMap$City;)Z"⟩, 6), (⟨"VotedMap$Tape", "readGate", "(LVotedMap$City;I)Z"⟩, 6), (⟨"VotedMap$Tape", "readPeople", "(LVotedMap$City;)Z"⟩, 6), (⟨"VotedMap$Tape", "readPerson", "(LVotedMap$City;I)Z"⟩, 6), (⟨"VotedMap$City", "measureFor", "(I)V"⟩, 17), (⟨"VotedMap$City", "endsOf", "(I)I"⟩, 17), (⟨"VotedMap$City", "isOpen", "(I)Z"⟩, 17), (⟨"VotedMap$City", "isForOpen", "(II)Z"⟩, 17), (⟨"VotedMap$City", "voiceOf", "(II)I"⟩, 17), (⟨"VotedMap$City", "isWalledIn", "(I)Z"⟩, 17)]
theorem lw_r1 : ∀ q ∈ lw_privs_1, lw_okq q := List.forall_mem_cons.mpr ⟨lw_p0, List.forall_mem_cons.mpr ⟨lw_p1, List.forall_mem_cons.mpr ⟨lw_p2, List.forall_mem_cons.mpr ⟨lw_p3, List.forall_mem_cons.mpr ⟨lw_p4, List.forall_mem_cons.mpr ⟨lw_p5, List.forall_mem_cons.mpr ⟨lw_p6, List.forall_mem_cons.mpr ⟨lw_p7, List.forall_mem_cons.mpr ⟨lw_p8, List.forall_mem_cons.mpr ⟨lw_p9, List.forall_mem_cons.mpr ⟨lw_p10, List.forall_mem_cons.mpr ⟨lw_p11, List.forall_mem_cons.mpr ⟨lw_p12, List.forall_mem_cons.mpr ⟨lw_p13, List.forall_mem_cons.mpr ⟨lw_p14, List.forall_mem_cons.mpr ⟨lw_p15, fun _ h => absurd h List.not_mem_nil⟩⟩⟩⟩⟩⟩⟩⟩⟩⟩⟩⟩⟩⟩⟩⟩
theorem lw_p16 : lw_okq (⟨"VotedMap$City", "isOpenBy", "(III)Z"⟩, 17) := ⟨⟨by decide +kernel, by decide +kernel⟩, List.mem_of_getElem? (i := 53) (by decide +kernel), List.mem_of_getElem? (i := 475) (by decide +kernel), List.mem_of_getElem? (i := 476) (by decide +kernel)⟩
theorem lw_p17 : lw_okq (⟨"VotedMap$City", "spendsVeto", "(I)Z"⟩, 17) := ⟨⟨by decide +kernel, by decide +kernel⟩, List.mem_of_getElem? (i := 53) (by decide +kernel), List.mem_of_getElem? (i := 479) (by decide +kernel), List.mem_of_getElem? (i := 480) (by decide +kernel)⟩
theorem lw_p18 : lw_okq (⟨"VotedMap$Seer", "staysSo", "(LVotedMap$City;IIII)Z"⟩, 8) := ⟨⟨by decide +kernel, by decide +kernel⟩, List.mem_of_getElem? (i := 177) (by decide +kernel), List.mem_of_getElem? (i := 588) (by decide +kernel), List.mem_of_getElem? (i := 589) (by decide +kernel)⟩
theorem lw_p19 : lw_okq (⟨"VotedMap$Seer", "areGlad", "(II)Z"⟩, 8) := ⟨⟨by decide +kernel, by decide +kernel⟩, List.mem_of_getElem? (i := 177) (by decide +kernel), List.mem_of_getElem? (i := 612) (by decide +kernel), List.mem_of_getElem? (i := 613) (by decide +kernel)⟩
theorem lw_p20 : lw_okq (⟨"VotedMap$Seer", "swapHelps", "(LVotedMap$City;IIII)Z"⟩, 8) := ⟨⟨by decide +kernel, by decide +kernel⟩, List.mem_of_getElem? (i := 177) (by decide +kernel), List.mem_of_getElem? (i := 617) (by decide +kernel), List.mem_of_getElem? (i := 618) (by decide +kernel)⟩
theorem lw_p21 : lw_okq (⟨"VotedMap$Seer", "gladBy", "(LVotedMap$City;III)I"⟩, 8) := ⟨⟨by decide +kernel, by decide +kernel⟩, List.mem_of_getElem? (i := 177) (by decide +kernel), List.mem_of_getElem? (i := 639) (by decide +kernel), List.mem_of_getElem? (i := 640) (by decide +kernel)⟩
theorem lw_p22 : lw_okq (⟨"VotedMap", "arePairs", "(LVotedMap$Row;II)Z"⟩, 9) := ⟨⟨by decide +kernel, by decide +kernel⟩, List.mem_of_getElem? (i := 14) (by decide +kernel), List.mem_of_getElem? (i := 648) (by decide +kernel), List.mem_of_getElem? (i := 649) (by decide +kernel)⟩
theorem lw_p23 : lw_okq (⟨"VotedMap", "setsAnswer", "(I)I"⟩, 9) := ⟨⟨by decide +kernel, by decide +kernel⟩, List.mem_of_getElem? (i := 14) (by decide +kernel), List.mem_of_getElem? (i := 659) (by decide +kernel), List.mem_of_getElem? (i := 660) (by decide +kernel)⟩
theorem lw_p24 : lw_okq (⟨"VotedMap$Trace", "leave", "(I)V"⟩, 2) := ⟨⟨by decide +kernel, by decide +kernel⟩, List.mem_of_getElem? (i := 216) (by decide +kernel), List.mem_of_getElem? (i := 707) (by decide +kernel), List.mem_of_getElem? (i := 708) (by decide +kernel)⟩
theorem lw_p25 : lw_okq (⟨"VotedMap", "rowsThere", "()I"⟩, 9) := ⟨⟨by decide +kernel, by decide +kernel⟩, List.mem_of_getElem? (i := 14) (by decide +kernel), List.mem_of_getElem? (i := 723) (by decide +kernel), List.mem_of_getElem? (i := 724) (by decide +kernel)⟩
theorem lw_p26 : lw_okq (⟨"VotedMapModel", "finds", "(I)I"⟩, 25) := ⟨⟨by decide +kernel, by decide +kernel⟩, List.mem_of_getElem? (i := 731) (by decide +kernel), List.mem_of_getElem? (i := 826) (by decide +kernel), List.mem_of_getElem? (i := 827) (by decide +kernel)⟩
theorem lw_p27 : lw_okq (⟨"VotedMapModel", "well", "(I)I"⟩, 25) := ⟨⟨by decide +kernel, by decide +kernel⟩, List.mem_of_getElem? (i := 731) (by decide +kernel), List.mem_of_getElem? (i := 831) (by decide +kernel), List.mem_of_getElem? (i := 832) (by decide +kernel)⟩
theorem lw_p28 : lw_okq (⟨"VotedMapModel", "put", "(II)V"⟩, 25) := ⟨⟨by decide +kernel, by decide +kernel⟩, List.mem_of_getElem? (i := 731) (by decide +kernel), List.mem_of_getElem? (i := 860) (by decide +kernel), List.mem_of_getElem? (i := 861) (by decide +kernel)⟩
theorem lw_p29 : lw_okq (⟨"VotedMapModel", "next", "()V"⟩, 25) := ⟨⟨by decide +kernel, by decide +kernel⟩, List.mem_of_getElem? (i := 731) (by decide +kernel), List.mem_of_getElem? (i := 864) (by decide +kernel), List.mem_of_getElem? (i := 865) (by decide +kernel)⟩
theorem lw_p30 : lw_okq (⟨"VotedMapModel", "here", "()I"⟩, 25) := ⟨⟨by decide +kernel, by decide +kernel⟩, List.mem_of_getElem? (i := 731) (by decide +kernel), List.mem_of_getElem? (i := 868) (by decide +kernel), List.mem_of_getElem? (i := 869) (by decide +kernel)⟩
theorem lw_p31 : lw_okq (⟨"VotedMapModel", "sign", "(I)V"⟩, 25) := ⟨⟨by decide +kernel, by decide +kernel⟩, List.mem_of_getElem? (i := 731) (by decide +kernel), List.mem_of_getElem? (i := 872) (by decide +kernel), List.mem_of_getElem? (i := 873) (by decide +kernel)⟩
def lw_privs_2 : List (MethodName × Nat) := [(⟨"VotedMap$City", "isOpenBy", "(III)Z"⟩, 17), (⟨"VotedMap$City", "spendsVeto", "(I)Z"⟩, 17), (⟨"VotedMap$Seer", "staysSo", "(LVotedMap$City;IIII)Z"⟩, 8), (⟨"VotedMap$Seer", "areGlad", "(II)Z"⟩, 8), (⟨"VotedMap$Seer", "swapHelps", "(LVotedMap$City;IIII)Z"⟩, 8), (⟨"VotedMap$Seer", "gladBy", "(LVotedMap$City;III)I"⟩, 8), (⟨"VotedMap", "arePairs", "(LVotedMap$Row;II)Z"⟩, 9), (⟨"VotedMap", "setsAnswer", "(I)I"⟩, 9), (⟨"VotedMap$Trace", "leave", "(I)V"⟩, 2), (⟨"VotedMap", "rowsThere", "()I"⟩, 9), (⟨"VotedMapModel", "finds", "(I)I"⟩, 25), (⟨"VotedMapModel", "well", "(I)I"⟩, 25), (⟨"VotedMapModel", "put", "(II)V"⟩, 25), (⟨"VotedMapModel", "next", "()V"⟩, 25), (⟨"VotedMapModel", "here", "()I"⟩, 25), (⟨"VotedMapModel", "sign", "(I)V"⟩, 25)]
theorem lw_r2 : ∀ q ∈ lw_privs_2, lw_okq q := List.forall_mem_cons.mpr ⟨lw_p16, List.forall_mem_cons.mpr ⟨lw_p17, List.forall_mem_cons.mpr ⟨lw_p18, List.forall_mem_cons.mpr ⟨lw_p19, List.forall_mem_cons.mpr ⟨lw_p20, List.forall_mem_cons.mpr ⟨lw_p21, List.forall_mem_cons.mpr ⟨lw_p22, List.forall_mem_cons.mpr ⟨lw_p23, List.forall_mem_cons.mpr ⟨lw_p24, List.forall_mem_cons.mpr ⟨lw_p25, List.forall_mem_cons.mpr ⟨lw_p26, List.forall_mem_cons.mpr ⟨lw_p27, List.forall_mem_cons.mpr ⟨lw_p28, List.forall_mem_cons.mpr ⟨lw_p29, List.forall_mem_cons.mpr ⟨lw_p30, List.forall_mem_cons.mpr ⟨lw_p31, fun _ h => absurd h List.not_mem_nil⟩⟩⟩⟩⟩⟩⟩⟩⟩⟩⟩⟩⟩⟩⟩⟩
theorem lw_p32 : lw_okq (⟨"VotedMapModel", "fails", "(I)V"⟩, 25) := ⟨⟨by decide +kernel, by decide +kernel⟩, List.mem_of_getElem? (i := 731) (by decide +kernel), List.mem_of_getElem? (i := 876) (by decide +kernel), List.mem_of_getElem? (i := 877) (by decide +kernel)⟩
theorem lw_p33 : lw_okq (⟨"VotedMapModel", "number", "(III)I"⟩, 25) := ⟨⟨by decide +kernel, by decide +kernel⟩, List.mem_of_getElem? (i := 731) (by decide +kernel), List.mem_of_getElem? (i := 880) (by decide +kernel), List.mem_of_getElem? (i := 881) (by decide +kernel)⟩
theorem lw_p34 : lw_okq (⟨"VotedMapModel", "numberBut", "(III)I"⟩, 25) := ⟨⟨by decide +kernel, by decide +kernel⟩, List.mem_of_getElem? (i := 731) (by decide +kernel), List.mem_of_getElem? (i := 884) (by decide +kernel), List.mem_of_getElem? (i := 885) (by decide +kernel)⟩
theorem lw_p35 : lw_okq (⟨"VotedMapModel", "readGate", "()V"⟩, 25) := ⟨⟨by decide +kernel, by decide +kernel⟩, List.mem_of_getElem? (i := 731) (by decide +kernel), List.mem_of_getElem? (i := 888) (by decide +kernel), List.mem_of_getElem? (i := 889) (by decide +kernel)⟩
theorem lw_p36 : lw_okq (⟨"VotedMapModel", "get", "(I)I"⟩, 25) := ⟨⟨by decide +kernel, by decide +kernel⟩, List.mem_of_getElem? (i := 731) (by decide +kernel), List.mem_of_getElem? (i := 892) (by decide +kernel), List.mem_of_getElem? (i := 893) (by decide +kernel)⟩
theorem lw_p37 : lw_okq (⟨"VotedMapModel", "readPerson", "()V"⟩, 25) := ⟨⟨by decide +kernel, by decide +kernel⟩, List.mem_of_getElem? (i := 731) (by decide +kernel), List.mem_of_getElem? (i := 896) (by decide +kernel), List.mem_of_getElem? (i := 897) (by decide +kernel)⟩
theorem lw_p38 : lw_okq (⟨"VotedMapModel", "copyCity", "(II)V"⟩, 25) := ⟨⟨by decide +kernel, by decide +kernel⟩, List.mem_of_getElem? (i := 731) (by decide +kernel), List.mem_of_getElem? (i := 904) (by decide +kernel), List.mem_of_getElem? (i := 905) (by decide +kernel)⟩
theorem lw_p39 : lw_okq (⟨"VotedMapModel", "hasCity", "()Z"⟩, 25) := ⟨⟨by decide +kernel, by decide +kernel⟩, List.mem_of_getElem? (i := 731) (by decide +kernel), List.mem_of_getElem? (i := 916) (by decide +kernel), List.mem_of_getElem? (i := 917) (by decide +kernel)⟩
theorem lw_p40 : lw_okq (⟨"VotedMapModel", "know", "(I)V"⟩, 25) := ⟨⟨by decide +kernel, by decide +kernel⟩, List.mem_of_getElem? (i := 731) (by decide +kernel), List.mem_of_getElem? (i := 922) (by decide +kernel), List.mem_of_getElem? (i := 923) (by decide +kernel)⟩
theorem lw_p41 : lw_okq (⟨"VotedMapModel", "personal", "(II)I"⟩, 25) := ⟨⟨by decide +kernel, by decide +kernel⟩, List.mem_of_getElem? (i := 731) (by decide +kernel), List.mem_of_getElem? (i := 926) (by decide +kernel), List.mem_of_getElem? (i := 927) (by decide +kernel)⟩
theorem lw_p42 : lw_okq (⟨"VotedMapModel", "begin", "()V"⟩, 25) := ⟨⟨by decide +kernel, by decide +kernel⟩, List.mem_of_getElem? (i := 731) (by decide +kernel), List.mem_of_getElem? (i := 930) (by decide +kernel), List.mem_of_getElem? (i := 931) (by decide +kernel)⟩
theorem lw_p43 : lw_okq (⟨"VotedMapModel", "dawns", "()V"⟩, 25) := ⟨⟨by decide +kernel, by decide +kernel⟩, List.mem_of_getElem? (i := 731) (by decide +kernel), List.mem_of_getElem? (i := 934) (by decide +kernel), List.mem_of_getElem? (i := 935) (by decide +kernel)⟩
theorem lw_p44 : lw_okq (⟨"VotedMapModel", "sumOf", "(IZ)I"⟩, 25) := ⟨⟨by decide +kernel, by decide +kernel⟩, List.mem_of_getElem? (i := 731) (by decide +kernel), List.mem_of_getElem? (i := 938) (by decide +kernel), List.mem_of_getElem? (i := 939) (by decide +kernel)⟩
theorem lw_p45 : lw_okq (⟨"VotedMapModel", "votesOpen", "(II)Z"⟩, 25) := ⟨⟨by decide +kernel, by decide +kernel⟩, List.mem_of_getElem? (i := 731) (by decide +kernel), List.mem_of_getElem? (i := 942) (by decide +kernel), List.mem_of_getElem? (i := 943) (by decide +kernel)⟩
theorem lw_p46 : lw_okq (⟨"VotedMapModel", "weightOf", "(II)I"⟩, 25) := ⟨⟨by decide +kernel, by decide +kernel⟩, List.mem_of_getElem? (i := 731) (by decide +kernel), List.mem_of_getElem? (i := 946) (by decide +kernel), List.mem_of_getElem? (i := 947) (by decide +kernel)⟩
theorem lw_p47 : lw_okq (⟨"VotedMapModel", "isNear", "(II)Z"⟩, 25) := ⟨⟨by decide +kernel, by decide +kernel⟩, List.mem_of_getElem? (i := 731) (by decide +kernel), List.mem_of_getElem? (i := 950) (by decide +kernel), List.mem_of_getElem? (i := 951) (by decide +kernel)⟩
def lw_privs_3 : List (MethodName × Nat) := [(⟨"VotedMapModel", "fails", "(I)V"⟩, 25), (⟨"VotedMapModel", "number", "(III)I"⟩, 25), (⟨"VotedMapModel", "numberBut", "(III)I"⟩, 25), (⟨"VotedMapModel", "readGate", "()V"⟩, 25), (⟨"VotedMapModel", "get", "(I)I"⟩, 25), (⟨"VotedMapModel", "readPerson", "()V"⟩, 25), (⟨"VotedMapModel", "copyCity", "(II)V"⟩, 25), (⟨"VotedMapModel", "hasCity", "()Z"⟩, 25), (⟨"VotedMapModel", "know", "(I)V"⟩, 25), (⟨"VotedMapModel", "personal", "(II)I"⟩, 25), (⟨"VotedMapModel", "begin", "()V"⟩, 25), (⟨"VotedMapModel", "dawns", "()V"⟩, 25), (⟨"VotedMapModel", "sumOf", "(IZ)I"⟩, 25), (⟨"VotedMapModel", "votesOpen", "(II)Z"⟩, 25), (⟨"VotedMapModel", "weightOf", "(II)I"⟩, 25), (⟨"VotedMapModel", "isNear", "(II)Z"⟩, 25)]
theorem lw_r3 : ∀ q ∈ lw_privs_3, lw_okq q := List.forall_mem_cons.mpr ⟨lw_p32, List.forall_mem_cons.mpr ⟨lw_p33, List.forall_mem_cons.mpr ⟨lw_p34, List.forall_mem_cons.mpr ⟨lw_p35, List.forall_mem_cons.mpr ⟨lw_p36, List.forall_mem_cons.mpr ⟨lw_p37, List.forall_mem_cons.mpr ⟨lw_p38, List.forall_mem_cons.mpr ⟨lw_p39, List.forall_mem_cons.mpr ⟨lw_p40, List.forall_mem_cons.mpr ⟨lw_p41, List.forall_mem_cons.mpr ⟨lw_p42, List.forall_mem_cons.mpr ⟨lw_p43, List.forall_mem_cons.mpr ⟨lw_p44, List.forall_mem_cons.mpr ⟨lw_p45, List.forall_mem_cons.mpr ⟨lw_p46, List.forall_mem_cons.mpr ⟨lw_p47, fun _ h => absurd h List.not_mem_nil⟩⟩⟩⟩⟩⟩⟩⟩⟩⟩⟩⟩⟩⟩⟩⟩
theorem lw_p48 : lw_okq (⟨"VotedMapModel", "stepsBy", "(III)I"⟩, 25) := ⟨⟨by decide +kernel, by decide +kernel⟩, List.mem_of_getElem? (i := 731) (by decide +kernel), List.mem_of_getElem? (i := 954) (by decide +kernel), List.mem_of_getElem? (i := 955) (by decide +kernel)⟩
theorem lw_p49 : lw_okq (⟨"VotedMapModel", "isWalledIn", "(II)Z"⟩, 25) := ⟨⟨by decide +kernel, by decide +kernel⟩, List.mem_of_getElem? (i := 731) (by decide +kernel), List.mem_of_getElem? (i := 958) (by decide +kernel), List.mem_of_getElem? (i := 959) (by decide +kernel)⟩
theorem lw_p50 : lw_okq (⟨"VotedMapModel", "isGate", "(I)Z"⟩, 25) := ⟨⟨by decide +kernel, by decide +kernel⟩, List.mem_of_getElem? (i := 731) (by decide +kernel), List.mem_of_getElem? (i := 966) (by decide +kernel), List.mem_of_getElem? (i := 967) (by decide +kernel)⟩
theorem lw_p51 : lw_okq (⟨"VotedMapModel", "isPerson", "(I)Z"⟩, 25) := ⟨⟨by decide +kernel, by decide +kernel⟩, List.mem_of_getElem? (i := 731) (by decide +kernel), List.mem_of_getElem? (i := 974) (by decide +kernel), List.mem_of_getElem? (i := 975) (by decide +kernel)⟩
theorem lw_p52 : lw_okq (⟨"VotedMapModel", "isWish", "(I)Z"⟩, 25) := ⟨⟨by decide +kernel, by decide +kernel⟩, List.mem_of_getElem? (i := 731) (by decide +kernel), List.mem_of_getElem? (i := 978) (by decide +kernel), List.mem_of_getElem? (i := 979) (by decide +kernel)⟩
theorem lw_p53 : lw_okq (⟨"VotedMapModel", "reachBy", "(II)I"⟩, 25) := ⟨⟨by decide +kernel, by decide +kernel⟩, List.mem_of_getElem? (i := 731) (by decide +kernel), List.mem_of_getElem? (i := 998) (by decide +kernel), List.mem_of_getElem? (i := 999) (by decide +kernel)⟩
theorem lw_p54 : lw_okq (⟨"VotedMapModel", "dawnMany", "(I)V"⟩, 25) := ⟨⟨by decide +kernel, by decide +kernel⟩, List.mem_of_getElem? (i := 731) (by decide +kernel), List.mem_of_getElem? (i := 1014) (by decide +kernel), List.mem_of_getElem? (i := 1015) (by decide +kernel)⟩
theorem lw_p55 : lw_okq (⟨"VotedMapModel", "walledBy", "(I)I"⟩, 25) := ⟨⟨by decide +kernel, by decide +kernel⟩, List.mem_of_getElem? (i := 731) (by decide +kernel), List.mem_of_getElem? (i := 1018) (by decide +kernel), List.mem_of_getElem? (i := 1019) (by decide +kernel)⟩
theorem lw_p56 : lw_okq (⟨"VotedMapModel", "gladBy", "(I)I"⟩, 25) := ⟨⟨by decide +kernel, by decide +kernel⟩, List.mem_of_getElem? (i := 731) (by decide +kernel), List.mem_of_getElem? (i := 1022) (by decide +kernel), List.mem_of_getElem? (i := 1023) (by decide +kernel)⟩
theorem lw_p57 : lw_okq (⟨"VotedMapModel", "length", "()I"⟩, 25) := ⟨⟨by decide +kernel, by decide +kernel⟩, List.mem_of_getElem? (i := 731) (by decide +kernel), List.mem_of_getElem? (i := 1030) (by decide +kernel), List.mem_of_getElem? (i := 1031) (by decide +kernel)⟩
theorem lw_p58 : lw_okq (⟨"VotedMapModel", "fewest", "(IIII)I"⟩, 25) := ⟨⟨by decide +kernel, by decide +kernel⟩, List.mem_of_getElem? (i := 731) (by decide +kernel), List.mem_of_getElem? (i := 1038) (by decide +kernel), List.mem_of_getElem? (i := 1039) (by decide +kernel)⟩
theorem lw_p59 : lw_okq (⟨"VotedMapModel", "isSo", "(IIII)Z"⟩, 25) := ⟨⟨by decide +kernel, by decide +kernel⟩, List.mem_of_getElem? (i := 731) (by decide +kernel), List.mem_of_getElem? (i := 1045) (by decide +kernel), List.mem_of_getElem? (i := 1046) (by decide +kernel)⟩
theorem lw_p60 : lw_okq (⟨"VotedMapModel", "areGlad", "(II)Z"⟩, 25) := ⟨⟨by decide +kernel, by decide +kernel⟩, List.mem_of_getElem? (i := 731) (by decide +kernel), List.mem_of_getElem? (i := 1057) (by decide +kernel), List.mem_of_getElem? (i := 1058) (by decide +kernel)⟩
theorem lw_p61 : lw_okq (⟨"VotedMapModel", "sizeOf", "(I)I"⟩, 25) := ⟨⟨by decide +kernel, by decide +kernel⟩, List.mem_of_getElem? (i := 731) (by decide +kernel), List.mem_of_getElem? (i := 1100) (by decide +kernel), List.mem_of_getElem? (i := 1101) (by decide +kernel)⟩
theorem lw_p62 : lw_okq (⟨"VotedMapModel", "size12", "(I)I"⟩, 25) := ⟨⟨by decide +kernel, by decide +kernel⟩, List.mem_of_getElem? (i := 731) (by decide +kernel), List.mem_of_getElem? (i := 1104) (by decide +kernel), List.mem_of_getElem? (i := 1105) (by decide +kernel)⟩
theorem lw_p63 : lw_okq (⟨"VotedMapModel", "leaves", "(I)V"⟩, 25) := ⟨⟨by decide +kernel, by decide +kernel⟩, List.mem_of_getElem? (i := 731) (by decide +kernel), List.mem_of_getElem? (i := 1108) (by decide +kernel), List.mem_of_getElem? (i := 1109) (by decide +kernel)⟩
def lw_privs_4 : List (MethodName × Nat) := [(⟨"VotedMapModel", "stepsBy", "(III)I"⟩, 25), (⟨"VotedMapModel", "isWalledIn", "(II)Z"⟩, 25), (⟨"VotedMapModel", "isGate", "(I)Z"⟩, 25), (⟨"VotedMapModel", "isPerson", "(I)Z"⟩, 25), (⟨"VotedMapModel", "isWish", "(I)Z"⟩, 25), (⟨"VotedMapModel", "reachBy", "(II)I"⟩, 25), (⟨"VotedMapModel", "dawnMany", "(I)V"⟩, 25), (⟨"VotedMapModel", "walledBy", "(I)I"⟩, 25), (⟨"VotedMapModel", "gladBy", "(I)I"⟩, 25), (⟨"VotedMapModel", "length", "()I"⟩, 25), (⟨"VotedMapModel", "fewest", "(IIII)I"⟩, 25), (⟨"VotedMapModel", "isSo", "(IIII)Z"⟩, 25), (⟨"VotedMapModel", "areGlad", "(II)Z"⟩, 25), (⟨"VotedMapModel", "sizeOf", "(I)I"⟩, 25), (⟨"VotedMapModel", "size12", "(I)I"⟩, 25), (⟨"VotedMapModel", "leaves", "(I)V"⟩, 25)]
theorem lw_r4 : ∀ q ∈ lw_privs_4, lw_okq q := List.forall_mem_cons.mpr ⟨lw_p48, List.forall_mem_cons.mpr ⟨lw_p49, List.forall_mem_cons.mpr ⟨lw_p50, List.forall_mem_cons.mpr ⟨lw_p51, List.forall_mem_cons.mpr ⟨lw_p52, List.forall_mem_cons.mpr ⟨lw_p53, List.forall_mem_cons.mpr ⟨lw_p54, List.forall_mem_cons.mpr ⟨lw_p55, List.forall_mem_cons.mpr ⟨lw_p56, List.forall_mem_cons.mpr ⟨lw_p57, List.forall_mem_cons.mpr ⟨lw_p58, List.forall_mem_cons.mpr ⟨lw_p59, List.forall_mem_cons.mpr ⟨lw_p60, List.forall_mem_cons.mpr ⟨lw_p61, List.forall_mem_cons.mpr ⟨lw_p62, List.forall_mem_cons.mpr ⟨lw_p63, fun _ h => absurd h List.not_mem_nil⟩⟩⟩⟩⟩⟩⟩⟩⟩⟩⟩⟩⟩⟩⟩⟩
theorem lw_p64 : lw_okq (⟨"VotedMapModel", "size11", "(I)I"⟩, 25) := ⟨⟨by decide +kernel, by decide +kernel⟩, List.mem_of_getElem? (i := 731) (by decide +kernel), List.mem_of_getElem? (i := 1112) (by decide +kernel), List.mem_of_getElem? (i := 1113) (by decide +kernel)⟩
theorem lw_p65 : lw_okq (⟨"VotedMapModel", "size10", "(I)I"⟩, 25) := ⟨⟨by decide +kernel, by decide +kernel⟩, List.mem_of_getElem? (i := 731) (by decide +kernel), List.mem_of_getElem? (i := 1116) (by decide +kernel), List.mem_of_getElem? (i := 1117) (by decide +kernel)⟩
theorem lw_p66 : lw_okq (⟨"VotedMapModel", "markOf", "(I)I"⟩, 25) := ⟨⟨by decide +kernel, by decide +kernel⟩, List.mem_of_getElem? (i := 731) (by decide +kernel), List.mem_of_getElem? (i := 1120) (by decide +kernel), List.mem_of_getElem? (i := 1121) (by decide +kernel)⟩
theorem lw_p67 : lw_okq (⟨"VotedMapModel", "mark21", "(I)I"⟩, 25) := ⟨⟨by decide +kernel, by decide +kernel⟩, List.mem_of_getElem? (i := 731) (by decide +kernel), List.mem_of_getElem? (i := 1124) (by decide +kernel), List.mem_of_getElem? (i := 1125) (by decide +kernel)⟩
theorem lw_p68 : lw_okq (⟨"VotedMapModel", "mark20", "(I)I"⟩, 25) := ⟨⟨by decide +kernel, by decide +kernel⟩, List.mem_of_getElem? (i := 731) (by decide +kernel), List.mem_of_getElem? (i := 1128) (by decide +kernel), List.mem_of_getElem? (i := 1129) (by decide +kernel)⟩
theorem lw_p69 : lw_okq (⟨"VotedMapModel", "mark24", "(I)I"⟩, 25) := ⟨⟨by decide +kernel, by decide +kernel⟩, List.mem_of_getElem? (i := 731) (by decide +kernel), List.mem_of_getElem? (i := 1132) (by decide +kernel), List.mem_of_getElem? (i := 1133) (by decide +kernel)⟩
theorem lw_p70 : lw_okq (⟨"VotedMapModel", "mark22", "(I)I"⟩, 25) := ⟨⟨by decide +kernel, by decide +kernel⟩, List.mem_of_getElem? (i := 731) (by decide +kernel), List.mem_of_getElem? (i := 1136) (by decide +kernel), List.mem_of_getElem? (i := 1137) (by decide +kernel)⟩
theorem lw_p71 : lw_okq (⟨"VotedMapModel", "mark23", "(I)I"⟩, 25) := ⟨⟨by decide +kernel, by decide +kernel⟩, List.mem_of_getElem? (i := 731) (by decide +kernel), List.mem_of_getElem? (i := 1140) (by decide +kernel), List.mem_of_getElem? (i := 1141) (by decide +kernel)⟩
theorem lw_p72 : lw_okq (⟨"VotedMapModel", "size14", "(I)I"⟩, 25) := ⟨⟨by decide +kernel, by decide +kernel⟩, List.mem_of_getElem? (i := 731) (by decide +kernel), List.mem_of_getElem? (i := 1144) (by decide +kernel), List.mem_of_getElem? (i := 1145) (by decide +kernel)⟩
theorem lw_p73 : lw_okq (⟨"VotedMapModel", "size13", "(I)I"⟩, 25) := ⟨⟨by decide +kernel, by decide +kernel⟩, List.mem_of_getElem? (i := 731) (by decide +kernel), List.mem_of_getElem? (i := 1148) (by decide +kernel), List.mem_of_getElem? (i := 1149) (by decide +kernel)⟩
def lw_privs_5 : List (MethodName × Nat) := [(⟨"VotedMapModel", "size11", "(I)I"⟩, 25), (⟨"VotedMapModel", "size10", "(I)I"⟩, 25), (⟨"VotedMapModel", "markOf", "(I)I"⟩, 25), (⟨"VotedMapModel", "mark21", "(I)I"⟩, 25), (⟨"VotedMapModel", "mark20", "(I)I"⟩, 25), (⟨"VotedMapModel", "mark24", "(I)I"⟩, 25), (⟨"VotedMapModel", "mark22", "(I)I"⟩, 25), (⟨"VotedMapModel", "mark23", "(I)I"⟩, 25), (⟨"VotedMapModel", "size14", "(I)I"⟩, 25), (⟨"VotedMapModel", "size13", "(I)I"⟩, 25)]
theorem lw_r5 : ∀ q ∈ lw_privs_5, lw_okq q := List.forall_mem_cons.mpr ⟨lw_p64, List.forall_mem_cons.mpr ⟨lw_p65, List.forall_mem_cons.mpr ⟨lw_p66, List.forall_mem_cons.mpr ⟨lw_p67, List.forall_mem_cons.mpr ⟨lw_p68, List.forall_mem_cons.mpr ⟨lw_p69, List.forall_mem_cons.mpr ⟨lw_p70, List.forall_mem_cons.mpr ⟨lw_p71, List.forall_mem_cons.mpr ⟨lw_p72, List.forall_mem_cons.mpr ⟨lw_p73, fun _ h => absurd h List.not_mem_nil⟩⟩⟩⟩⟩⟩⟩⟩⟩⟩
def lw_privs : List (MethodName × Nat) := lw_privs_1 ++ (lw_privs_2 ++ (lw_privs_3 ++ (lw_privs_4 ++ (lw_privs_5))))
def lw_tbl : List Cond := k2_sels lw_privs ++ tables_1
theorem lw_privs_ok : ∀ q ∈ lw_privs, lw_okq q := by
  show ∀ q ∈ lw_privs_1 ++ (lw_privs_2 ++ (lw_privs_3 ++ (lw_privs_4 ++ (lw_privs_5)))), lw_okq q
  exact List.forall_mem_append.mpr ⟨lw_r1, List.forall_mem_append.mpr ⟨lw_r2, List.forall_mem_append.mpr ⟨lw_r3, List.forall_mem_append.mpr ⟨lw_r4, lw_r5⟩⟩⟩⟩
end
section
/-! classes, methods and instructions as data (printed by wip/tools/gen_data.py) -/
def tm_cn (c : Nat) : String := ["VotedMap$Acts", "VotedMap$City", "VotedMap$Row", "VotedMap$Seer", "VotedMap$Tape", "VotedMap$Trace", "VotedMap", "VotedMapModel", "java/lang/Integer", "java/lang/Math", "java/util/Arrays", "VotedMapLaw", "java/lang/System"].getD c ""
def tm_T0 : u_T := fun k => match k with
  | 0 => ("VotedMap$Acts", "kept", "I", false)
  | 1 => ("VotedMap$Acts", "next", "I", false)
  | 2 => ("VotedMap$Acts", "opens", "[I", true)
  | 3 => ("VotedMap$Acts", "spents", "[I", true)
  | 4 => ("VotedMap$Acts", "days", "[I", true)
  | _ => ("VotedMap$Acts", "wishes", "[I", true)
def tm_t0 : Nat → FieldType := fun k => match k with
  | 0 => .int
  | 1 => .int
  | 2 => .array .int
  | 3 => .array .int
  | 4 => .array .int
  | _ => .array .int
def tm_T1 : u_T := fun k => match k with
  | 0 => ("VotedMap$City", "plots", "I", false)
  | 1 => ("VotedMap$City", "near", "I", false)
  | 2 => ("VotedMap$City", "tie", "I", false)
  | 3 => ("VotedMap$City", "gates", "I", false)
  | 4 => ("VotedMap$City", "people", "I", false)
  | 5 => ("VotedMap$City", "firstPlots", "[I", true)
  | 6 => ("VotedMap$City", "secondPlots", "[I", true)
  | 7 => ("VotedMap$City", "sorts", "[I", true)
  | 8 => ("VotedMap$City", "homes", "[I", true)
  | 9 => ("VotedMap$City", "errands", "[I", true)
  | 10 => ("VotedMap$City", "weights", "[I", true)
  | 11 => ("VotedMap$City", "wishes", "[I", true)
  | 12 => ("VotedMap$City", "open", "I", false)
  | 13 => ("VotedMap$City", "spent", "I", false)
  | 14 => ("VotedMap$City", "day", "I", false)
  | 15 => ("VotedMap$City", "stepTable", "[I", true)
  | _ => ("VotedMap$City", "measuredOpen", "I", false)
def tm_t1 : Nat → FieldType := fun k => match k with
  | 0 => .int
  | 1 => .int
  | 2 => .int
  | 3 => .int
  | 4 => .int
  | 5 => .array .int
  | 6 => .array .int
  | 7 => .array .int
  | 8 => .array .int
  | 9 => .array .int
  | 10 => .array .int
  | 11 => .array .int
  | 12 => .int
  | 13 => .int
  | 14 => .int
  | 15 => .array .int
  | _ => .int
def tm_T2 : u_T := fun k => match k with
  | 0 => ("VotedMap$Row", "items", "[I", true)
  | 1 => ("VotedMap$Row", "there", "Z", false)
  | 2 => ("VotedMap$Row", "lane", "I", false)
  | _ => ("VotedMap$Row", "length", "I", false)
def tm_t2 : Nat → FieldType := fun k => match k with
  | 0 => .array .int
  | 1 => .boolean
  | 2 => .int
  | _ => .int
def tm_T3 : u_T := fun k => match k with
  | 0 => ("VotedMap$Seer", "lawNear", "I", false)
  | 1 => ("VotedMap$Seer", "lawTie", "I", false)
  | 2 => ("VotedMap$Seer", "lawGlad", "I", false)
  | 3 => ("VotedMap$Seer", "sets", "I", false)
  | 4 => ("VotedMap$Seer", "openInAll", "I", false)
  | 5 => ("VotedMap$Seer", "shutInAll", "I", false)
  | 6 => ("VotedMap$Seer", "trial", "LVotedMap$City;", true)
  | _ => ("VotedMap$Seer", "other", "LVotedMap$City;", true)
def tm_t3 : Nat → FieldType := fun k => match k with
  | 0 => .int
  | 1 => .int
  | 2 => .int
  | 3 => .int
  | 4 => .int
  | 5 => .int
  | 6 => .object "VotedMap$City"
  | _ => .object "VotedMap$City"
def tm_T4 : u_T := fun k => match k with
  | 0 => ("VotedMap$Tape", "bytes", "[I", true)
  | 1 => ("VotedMap$Tape", "length", "I", false)
  | 2 => ("VotedMap$Tape", "faultNumber", "I", false)
  | 3 => ("VotedMap$Tape", "faultPlace", "I", false)
  | 4 => ("VotedMap$Tape", "at", "I", false)
  | _ => ("VotedMap$Tape", "number", "I", false)
def tm_t4 : Nat → FieldType := fun k => match k with
  | 0 => .array .int
  | 1 => .int
  | 2 => .int
  | 3 => .int
  | 4 => .int
  | _ => .int
def tm_T5 : u_T := fun k => match k with
  | 0 => ("VotedMap$Trace", "bodies", "[I", true)
  | _ => ("VotedMap$Trace", "length", "I", false)
def tm_t5 : Nat → FieldType := fun k => match k with
  | 0 => .array .int
  | _ => .int
def tm_T6 : u_T := fun k => match k with
  | 0 => ("VotedMap", "rows", "[LVotedMap$Row;", true)
  | 1 => ("VotedMap", "tape", "LVotedMap$Tape;", true)
  | 2 => ("VotedMap", "town", "LVotedMap$City;", true)
  | 3 => ("VotedMap", "draft", "LVotedMap$City;", true)
  | 4 => ("VotedMap", "images", "[LVotedMap$City;", true)
  | 5 => ("VotedMap", "acts", "LVotedMap$Acts;", true)
  | 6 => ("VotedMap", "seer", "LVotedMap$Seer;", true)
  | 7 => ("VotedMap", "traced", "LVotedMap$Trace;", true)
  | _ => ("VotedMap", "finding", "I", false)
def tm_t6 : Nat → FieldType := fun k => match k with
  | 0 => .array (.object "VotedMap$Row")
  | 1 => .object "VotedMap$Tape"
  | 2 => .object "VotedMap$City"
  | 3 => .object "VotedMap$City"
  | 4 => .array (.object "VotedMap$City")
  | 5 => .object "VotedMap$Acts"
  | 6 => .object "VotedMap$Seer"
  | 7 => .object "VotedMap$Trace"
  | _ => .int
def tm_T7 : u_T := fun k => match k with
  | 0 => ("VotedMapModel", "lanes", "[I", true)
  | 1 => ("VotedMapModel", "sizes", "[I", true)
  | 2 => ("VotedMapModel", "items", "[I", true)
  | 3 => ("VotedMapModel", "state", "I", false)
  | 4 => ("VotedMapModel", "now", "[I", true)
  | 5 => ("VotedMapModel", "base", "I", false)
  | 6 => ("VotedMapModel", "isKept", "[Z", true)
  | 7 => ("VotedMapModel", "acts", "[I", true)
  | 8 => ("VotedMapModel", "actMany", "I", false)
  | 9 => ("VotedMapModel", "tape", "[B", true)
  | 10 => ("VotedMapModel", "typed", "I", false)
  | 11 => ("VotedMapModel", "at", "I", false)
  | 12 => ("VotedMapModel", "start", "I", false)
  | 13 => ("VotedMapModel", "sort", "I", false)
  | 14 => ("VotedMapModel", "value", "I", false)
  | 15 => ("VotedMapModel", "fault", "I", false)
  | 16 => ("VotedMapModel", "faultAt", "I", false)
  | 17 => ("VotedMapModel", "lastFault", "I", false)
  | 18 => ("VotedMapModel", "open", "I", false)
  | 19 => ("VotedMapModel", "spent", "I", false)
  | 20 => ("VotedMapModel", "wishes", "[I", true)
  | 21 => ("VotedMapModel", "near", "I", false)
  | 22 => ("VotedMapModel", "tie", "I", false)
  | 23 => ("VotedMapModel", "traced", "[I", true)
  | _ => ("VotedMapModel", "tracedMany", "I", false)
def tm_t7 : Nat → FieldType := fun k => match k with
  | 0 => .array .int
  | 1 => .array .int
  | 2 => .array .int
  | 3 => .int
  | 4 => .array .int
  | 5 => .int
  | 6 => .array .boolean
  | 7 => .array .int
  | 8 => .int
  | 9 => .array .byte
  | 10 => .int
  | 11 => .int
  | 12 => .int
  | 13 => .int
  | 14 => .int
  | 15 => .int
  | 16 => .int
  | 17 => .int
  | 18 => .int
  | 19 => .int
  | 20 => .array .int
  | 21 => .int
  | 22 => .int
  | 23 => .array .int
  | _ => .int
def tm_T (c : Nat) : u_T := match c with
  | 0 => tm_T0
  | 1 => tm_T1
  | 2 => tm_T2
  | 3 => tm_T3
  | 4 => tm_T4
  | 5 => tm_T5
  | 6 => tm_T6
  | _ => tm_T7
def tm_t (c : Nat) : Nat → FieldType := match c with
  | 0 => tm_t0
  | 1 => tm_t1
  | 2 => tm_t2
  | 3 => tm_t3
  | 4 => tm_t4
  | 5 => tm_t5
  | 6 => tm_t6
  | _ => tm_t7
def tm_N (c : Nat) : Nat := [6, 17, 4, 8, 6, 2, 9, 25].getD c 0
def tm_cl : List vw_C := [("VotedMap$Acts", tm_T0, 6), ("VotedMap$City", tm_T1, 17), ("VotedMap$Row", tm_T2, 4), ("VotedMap$Seer", tm_T3, 8), ("VotedMap$Tape", tm_T4, 6), ("VotedMap$Trace", tm_T5, 2), ("VotedMap", tm_T6, 9), ("VotedMapModel", tm_T7, 25)]
-- methods: class, name, descriptor, maxLocals, result (0 none, 1 int, 2 boolean, 3 a city), parameters
abbrev jA_forgetAll : Nat := 0
abbrev jA_keep : Nat := 1
abbrev jA_takeBack : Nat := 2
abbrev jC_isThere : Nat := 3
abbrev jC_allGates : Nat := 4
abbrev jC_isGateSet : Nat := 5
abbrev jC_clear : Nat := 6
abbrev jC_become : Nat := 7
abbrev jC_beginAs : Nat := 8
abbrev jC_isLike : Nat := 9
abbrev jC_isOpen : Nat := 10
abbrev jC_endsOf : Nat := 11
abbrev jC_wishFor : Nat := 12
abbrev jC_wishSo : Nat := 13
abbrev jC_reachedFrom : Nat := 14
abbrev jC_isGlad : Nat := 15
abbrev jC_glad : Nat := 16
abbrev jC_isWalledIn : Nat := 17
abbrev jC_walledIn : Nat := 18
abbrev jC_measure : Nat := 19
abbrev jC_measureFor : Nat := 20
abbrev jC_stepsOf : Nat := 21
abbrev jC_voiceOf : Nat := 22
abbrev jC_isForOpen : Nat := 23
abbrev jC_sumOf : Nat := 24
abbrev jC_isOpenBy : Nat := 25
abbrev jC_spendsVeto : Nat := 26
abbrev jC_rise : Nat := 27
abbrev jR_make : Nat := 28
abbrev jR_cut : Nat := 29
abbrev jR_hasPlaces : Nat := 30
abbrev jS_behind : Nat := 31
abbrev jS_roundLength : Nat := 32
abbrev jS_roundTail : Nat := 33
abbrev jS_fewest : Nat := 34
abbrev jS_staysSo : Nat := 35
abbrev jS_firstSwap : Nat := 36
abbrev jS_swapHelps : Nat := 37
abbrev jS_areGlad : Nat := 38
abbrev jS_leastWish : Nat := 39
abbrev jS_findLaw : Nat := 40
abbrev jS_gladBy : Nat := 41
abbrev jS_findSets : Nat := 42
abbrev jS_sellers : Nat := 43
abbrev jT_add : Nat := 44
abbrev jT_readAll : Nat := 45
abbrev jT_readHead : Nat := 46
abbrev jT_readGates : Nat := 47
abbrev jT_readGate : Nat := 48
abbrev jT_readPeople : Nat := 49
abbrev jT_readPerson : Nat := 50
abbrev jT_sortOf : Nat := 51
abbrev jT_takeSign : Nat := 52
abbrev jT_takeNumber : Nat := 53
abbrev jT_isFigure : Nat := 54
abbrev jT_hasFault : Nat := 55
abbrev jB_leave : Nat := 56
abbrev jB_sizeBody : Nat := 57
abbrev jB_markBody : Nat := 58
abbrev jB_answer : Nat := 59
abbrev jB_begin : Nat := 60
abbrev jX_row : Nat := 61
abbrev jX_set : Nat := 62
abbrev jX_copy : Nat := 63
abbrev jX_drop : Nat := 64
abbrev jX_feed : Nat := 65
abbrev jX_city : Nat := 66
abbrev jX_fault : Nat := 67
abbrev jX_dawn : Nat := 68
abbrev jX_turn : Nat := 69
abbrev jX_wish : Nat := 70
abbrev jX_undo : Nat := 71
abbrev jX_person : Nat := 72
abbrev jX_gate : Nat := 73
abbrev jX_reach : Nat := 74
abbrev jX_steps : Nat := 75
abbrev jX_votes : Nat := 76
abbrev jX_ahead : Nat := 77
abbrev jX_round : Nat := 78
abbrev jX_won : Nat := 79
abbrev jX_kept : Nat := 80
abbrev jX_swap : Nat := 81
abbrev jX_best : Nat := 82
abbrev jX_laws : Nat := 83
abbrev jX_opened : Nat := 84
abbrev jX_sold : Nat := 85
abbrev jX_image : Nat := 86
abbrev jX_restore : Nat := 87
abbrev jX_kind : Nat := 88
abbrev jX_as : Nat := 89
abbrev jX_ask : Nat := 90
abbrev jX_trace : Nat := 91
abbrev jX_count : Nat := 92
abbrev jX_status : Nat := 93
abbrev jX_isWithin : Nat := 94
abbrev jX_found : Nat := 95
abbrev jX_clean : Nat := 96
abbrev jX_rowsThere : Nat := 97
abbrev jX_manyOrSet : Nat := 98
abbrev jX_arePairs : Nat := 99
abbrev jX_peopleTold : Nat := 100
abbrev jX_setsAnswer : Nat := 101
abbrev jX_isOfKind : Nat := 102
abbrev jM_in : Nat := 103
abbrev jM_finds : Nat := 104
abbrev jM_well : Nat := 105
abbrev jM_isRow : Nat := 106
abbrev jM_row : Nat := 107
abbrev jM_set : Nat := 108
abbrev jM_copy : Nat := 109
abbrev jM_drop : Nat := 110
abbrev jM_status : Nat := 111
abbrev jM_get : Nat := 112
abbrev jM_put : Nat := 113
abbrev jM_copyCity : Nat := 114
abbrev jM_isGate : Nat := 115
abbrev jM_isPerson : Nat := 116
abbrev jM_personal : Nat := 117
abbrev jM_feed : Nat := 118
abbrev jM_here : Nat := 119
abbrev jM_next : Nat := 120
abbrev jM_fails : Nat := 121
abbrev jM_sign : Nat := 122
abbrev jM_numberBut : Nat := 123
abbrev jM_number : Nat := 124
abbrev jM_readGate : Nat := 125
abbrev jM_kindOf : Nat := 126
abbrev jM_readPerson : Nat := 127
abbrev jM_city : Nat := 128
abbrev jM_fault : Nat := 129
abbrev jM_reachBy : Nat := 130
abbrev jM_stepsBy : Nat := 131
abbrev jM_isWalledIn : Nat := 132
abbrev jM_walledBy : Nat := 133
abbrev jM_gladBy : Nat := 134
abbrev jM_begin : Nat := 135
abbrev jM_isNear : Nat := 136
abbrev jM_weightOf : Nat := 137
abbrev jM_votesOpen : Nat := 138
abbrev jM_sumOf : Nat := 139
abbrev jM_dawns : Nat := 140
abbrev jM_dawnMany : Nat := 141
abbrev jM_know : Nat := 142
abbrev jM_hasCity : Nat := 143
abbrev jM_dawn : Nat := 144
abbrev jM_turn : Nat := 145
abbrev jM_isWish : Nat := 146
abbrev jM_wish : Nat := 147
abbrev jM_undo : Nat := 148
abbrev jM_person : Nat := 149
abbrev jM_gate : Nat := 150
abbrev jM_reach : Nat := 151
abbrev jM_steps : Nat := 152
abbrev jM_votes : Nat := 153
abbrev jM_ahead : Nat := 154
abbrev jM_length : Nat := 155
abbrev jM_round : Nat := 156
abbrev jM_manyOf : Nat := 157
abbrev jM_isSo : Nat := 158
abbrev jM_fewest : Nat := 159
abbrev jM_won : Nat := 160
abbrev jM_kept : Nat := 161
abbrev jM_areGlad : Nat := 162
abbrev jM_swap : Nat := 163
abbrev jM_best : Nat := 164
abbrev jM_laws : Nat := 165
abbrev jM_opened : Nat := 166
abbrev jM_sold : Nat := 167
abbrev jM_image : Nat := 168
abbrev jM_restore : Nat := 169
abbrev jM_kind : Nat := 170
abbrev jM_isOne : Nat := 171
abbrev jM_as : Nat := 172
abbrev jM_leaves : Nat := 173
abbrev jM_size10 : Nat := 174
abbrev jM_mark20 : Nat := 175
abbrev jM_mark21 : Nat := 176
abbrev jM_size13 : Nat := 177
abbrev jM_size14 : Nat := 178
abbrev jM_mark22 : Nat := 179
abbrev jM_mark24 : Nat := 180
abbrev jM_mark23 : Nat := 181
abbrev jM_markOf : Nat := 182
abbrev jM_size11 : Nat := 183
abbrev jM_size12 : Nat := 184
abbrev jM_sizeOf : Nat := 185
abbrev jM_ask : Nat := 186
abbrev jM_trace : Nat := 187
abbrev jM_count : Nat := 188
abbrev jI_bitCount : Nat := 189
abbrev jAr_fill : Nat := 190
abbrev jL_law : Nat := 191
def tm_NM : Nat := 191
def tm_mtL : List (List (Nat × String × String × Nat × Nat × Nat)) := [
  [(0, "forgetAll", "()V", 1, 0, 0), (0, "keep", "(LVotedMap$City;)V", 2, 0, 1), (0, "takeBack", "(LVotedMap$City;)Z", 2, 2, 1), (1, "isThere", "()Z", 1, 2, 0), (1, "allGates", "()I", 1, 1, 0), (1, "isGateSet", "(I)Z", 2, 2, 1), (1, "clear", "()V", 1, 0, 0), (1, "become", "(LVotedMap$City;)V", 2, 0, 1), (1, "beginAs", "(LVotedMap$City;)V", 2, 0, 1), (1, "isLike", "(LVotedMap$City;)Z", 2, 2, 1), (1, "isOpen", "(I)Z", 2, 2, 1), (1, "endsOf", "(I)I", 2, 1, 1), (1, "wishFor", "(II)I", 3, 1, 2), (1, "wishSo", "(III)V", 4, 0, 3), (1, "reachedFrom", "(I)I", 5, 1, 1), (1, "isGlad", "(I)Z", 2, 2, 1)],
  [(1, "glad", "()I", 3, 1, 0), (1, "isWalledIn", "(I)Z", 5, 2, 1), (1, "walledIn", "()I", 3, 1, 0), (1, "measure", "()V", 2, 0, 0), (1, "measureFor", "(I)V", 7, 0, 1), (1, "stepsOf", "(II)I", 3, 1, 2), (1, "voiceOf", "(II)I", 4, 1, 2), (1, "isForOpen", "(II)Z", 3, 2, 2), (1, "sumOf", "(IZ)I", 5, 1, 2), (1, "isOpenBy", "(III)Z", 4, 2, 3), (1, "spendsVeto", "(I)Z", 4, 2, 1), (1, "rise", "()V", 3, 0, 0), (2, "make", "(II)V", 3, 0, 2), (2, "cut", "(I)I", 2, 1, 1), (2, "hasPlaces", "(II)Z", 3, 2, 2), (3, "behind", "(LVotedMap$City;I)LVotedMap$City;", 4, 3, 2)],
  [(3, "roundLength", "(LVotedMap$City;)I", 5, 1, 1), (3, "roundTail", "(LVotedMap$City;I)I", 4, 1, 2), (3, "fewest", "(LVotedMap$City;III)I", 9, 1, 4), (3, "staysSo", "(LVotedMap$City;IIII)Z", 7, 2, 5), (3, "firstSwap", "(LVotedMap$City;II)I", 6, 1, 3), (3, "swapHelps", "(LVotedMap$City;IIII)Z", 6, 2, 5), (3, "areGlad", "(II)Z", 3, 2, 2), (3, "leastWish", "(LVotedMap$City;I)I", 4, 1, 2), (3, "findLaw", "(LVotedMap$City;I)V", 6, 0, 2), (3, "gladBy", "(LVotedMap$City;III)I", 6, 1, 4), (3, "findSets", "(LVotedMap$City;II)V", 6, 0, 3), (3, "sellers", "(LVotedMap$City;I)I", 6, 1, 2), (4, "add", "(I)Z", 2, 2, 1), (4, "readAll", "(LVotedMap$City;)Z", 2, 2, 1), (4, "readHead", "(LVotedMap$City;)Z", 2, 2, 1), (4, "readGates", "(LVotedMap$City;)Z", 3, 2, 1)],
  [(4, "readGate", "(LVotedMap$City;I)Z", 4, 2, 2), (4, "readPeople", "(LVotedMap$City;)Z", 4, 2, 1), (4, "readPerson", "(LVotedMap$City;I)Z", 3, 2, 2), (4, "sortOf", "(I)I", 1, 1, 1), (4, "takeSign", "(I)Z", 2, 2, 1), (4, "takeNumber", "(II)Z", 5, 2, 2), (4, "isFigure", "(I)Z", 1, 2, 1), (4, "hasFault", "(II)Z", 3, 2, 2), (5, "leave", "(I)V", 2, 0, 1), (5, "sizeBody", "(I)I", 1, 1, 1), (5, "markBody", "(I)I", 1, 1, 1), (5, "answer", "(LVotedMap$City;II)I", 4, 1, 3), (5, "begin", "(LVotedMap$Trace;LVotedMap$City;III)I", 7, 1, 5), (6, "row", "(III)I", 4, 1, 3), (6, "set", "(III)I", 5, 1, 3), (6, "copy", "(IIIII)I", 8, 1, 5)],
  [(6, "drop", "(I)I", 3, 1, 1), (6, "feed", "(I)I", 2, 1, 1), (6, "city", "()I", 2, 1, 0), (6, "fault", "()I", 1, 1, 0), (6, "dawn", "(I)I", 3, 1, 1), (6, "turn", "(I)I", 2, 1, 1), (6, "wish", "(II)I", 4, 1, 2), (6, "undo", "()I", 1, 1, 0), (6, "person", "(II)I", 3, 1, 2), (6, "gate", "(II)I", 3, 1, 2), (6, "reach", "(I)I", 2, 1, 1), (6, "steps", "(II)I", 4, 1, 2), (6, "votes", "(II)I", 3, 1, 2), (6, "ahead", "(II)I", 4, 1, 2), (6, "round", "(I)I", 3, 1, 1), (6, "won", "(III)I", 4, 1, 3)],
  [(6, "kept", "(III)I", 4, 1, 3), (6, "swap", "(II)I", 3, 1, 2), (6, "best", "(I)I", 2, 1, 1), (6, "laws", "(II)I", 3, 1, 2), (6, "opened", "(IIII)I", 6, 1, 4), (6, "sold", "(I)I", 2, 1, 1), (6, "image", "(I)I", 2, 1, 1), (6, "restore", "(I)I", 2, 1, 1), (6, "kind", "(I)I", 2, 1, 1), (6, "as", "(II)I", 3, 1, 2), (6, "ask", "(II)I", 4, 1, 2), (6, "trace", "(I)I", 2, 1, 1), (6, "count", "(I)I", 2, 1, 1), (6, "status", "()I", 1, 1, 0), (6, "isWithin", "(II)Z", 2, 2, 2), (6, "found", "(I)I", 2, 1, 1)],
  [(6, "clean", "(I)I", 2, 1, 1), (6, "rowsThere", "()I", 3, 1, 0), (6, "manyOrSet", "(II)I", 2, 1, 2), (6, "arePairs", "(LVotedMap$Row;II)Z", 6, 2, 3), (6, "peopleTold", "(LVotedMap$Row;III)I", 6, 1, 4), (6, "setsAnswer", "(I)I", 2, 1, 1), (6, "isOfKind", "(II)Z", 2, 2, 2), (7, "in", "(III)Z", 3, 2, 3), (7, "finds", "(I)I", 2, 1, 1), (7, "well", "(I)I", 2, 1, 1), (7, "isRow", "(I)Z", 1, 2, 1), (7, "row", "(III)I", 5, 1, 3), (7, "set", "(III)I", 5, 1, 3), (7, "copy", "(IIIII)I", 9, 1, 5), (7, "drop", "(I)I", 2, 1, 1), (7, "status", "()I", 1, 1, 0)],
  [(7, "get", "(I)I", 2, 1, 1), (7, "put", "(II)V", 3, 0, 2), (7, "copyCity", "(II)V", 4, 0, 2), (7, "isGate", "(I)Z", 2, 2, 1), (7, "isPerson", "(I)Z", 2, 2, 1), (7, "personal", "(II)I", 3, 1, 2), (7, "feed", "(I)I", 2, 1, 1), (7, "here", "()I", 1, 1, 0), (7, "next", "()V", 2, 0, 0), (7, "fails", "(I)V", 2, 0, 1), (7, "sign", "(I)V", 2, 0, 1), (7, "numberBut", "(III)I", 5, 1, 3), (7, "number", "(III)I", 5, 1, 3), (7, "readGate", "()V", 6, 0, 0), (7, "kindOf", "(I)I", 1, 1, 1), (7, "readPerson", "()V", 8, 0, 0)],
  [(7, "city", "()I", 2, 1, 0), (7, "fault", "()I", 1, 1, 0), (7, "reachBy", "(II)I", 7, 1, 2), (7, "stepsBy", "(III)I", 10, 1, 3), (7, "isWalledIn", "(II)Z", 6, 2, 2), (7, "walledBy", "(I)I", 4, 1, 1), (7, "gladBy", "(I)I", 4, 1, 1), (7, "begin", "()V", 2, 0, 0), (7, "isNear", "(II)Z", 3, 2, 2), (7, "weightOf", "(II)I", 5, 1, 2), (7, "votesOpen", "(II)Z", 3, 2, 2), (7, "sumOf", "(IZ)I", 5, 1, 2), (7, "dawns", "()V", 8, 0, 0), (7, "dawnMany", "(I)V", 3, 0, 1), (7, "know", "(I)V", 3, 0, 1), (7, "hasCity", "()Z", 1, 2, 0)],
  [(7, "dawn", "(I)I", 3, 1, 1), (7, "turn", "(I)I", 2, 1, 1), (7, "isWish", "(I)Z", 2, 2, 1), (7, "wish", "(II)I", 4, 1, 2), (7, "undo", "()I", 2, 1, 0), (7, "person", "(II)I", 3, 1, 2), (7, "gate", "(II)I", 3, 1, 2), (7, "reach", "(I)I", 2, 1, 1), (7, "steps", "(II)I", 3, 1, 2), (7, "votes", "(II)I", 3, 1, 2), (7, "ahead", "(II)I", 3, 1, 2), (7, "length", "()I", 6, 1, 0), (7, "round", "(I)I", 8, 1, 1), (7, "manyOf", "(I)I", 3, 1, 1), (7, "isSo", "(IIII)Z", 7, 2, 4), (7, "fewest", "(IIII)I", 8, 1, 4)],
  [(7, "won", "(III)I", 4, 1, 3), (7, "kept", "(III)I", 4, 1, 3), (7, "areGlad", "(II)Z", 4, 2, 2), (7, "swap", "(II)I", 7, 1, 2), (7, "best", "(I)I", 3, 1, 1), (7, "laws", "(II)I", 7, 1, 2), (7, "opened", "(IIII)I", 14, 1, 4), (7, "sold", "(I)I", 5, 1, 1), (7, "image", "(I)I", 2, 1, 1), (7, "restore", "(I)I", 2, 1, 1), (7, "kind", "(I)I", 2, 1, 1), (7, "isOne", "(II)Z", 2, 2, 2), (7, "as", "(II)I", 3, 1, 2), (7, "leaves", "(I)V", 2, 0, 1), (7, "size10", "(I)I", 2, 1, 1), (7, "mark20", "(I)I", 2, 1, 1)],
  [(7, "mark21", "(I)I", 2, 1, 1), (7, "size13", "(I)I", 2, 1, 1), (7, "size14", "(I)I", 2, 1, 1), (7, "mark22", "(I)I", 2, 1, 1), (7, "mark24", "(I)I", 2, 1, 1), (7, "mark23", "(I)I", 3, 1, 1), (7, "markOf", "(I)I", 3, 1, 1), (7, "size11", "(I)I", 3, 1, 1), (7, "size12", "(I)I", 2, 1, 1), (7, "sizeOf", "(I)I", 3, 1, 1), (7, "ask", "(II)I", 3, 1, 2), (7, "trace", "(I)I", 2, 1, 1), (7, "count", "(I)I", 4, 1, 1), (8, "bitCount", "(I)I", 1, 1, 1), (10, "fill", "([II)V", 4, 0, 2), (11, "law", "([I)Z", 4, 2, 1)]]
def tm_mt (J : Nat) : Nat × String × String × Nat × Nat × Nat := (tm_mtL.getD (J / 16) []).getD (J % 16) (0, "", "", 0, 0, 0)
def tm_mc (J : Nat) : Nat := (tm_mt J).1
def tm_y (J : Nat) : MethodName := ⟨tm_cn (tm_mt J).1, (tm_mt J).2.1, (tm_mt J).2.2.1⟩
def tm_mL (J : Nat) : Nat := (tm_mt J).2.2.2.1
def tm_rk (J : Nat) : Nat := (tm_mt J).2.2.2.2.1
def tm_na (J : Nat) : Nat := (tm_mt J).2.2.2.2.2
def tm_rt (J : Nat) : Option FieldType := match tm_rk J with | 0 => none | 1 => some .int | 2 => some .boolean | _ => some (.object "VotedMap$City")
def tm_ccL : List (List ByteArray) := [
  [prog_2_method_2_code, prog_2_method_3_code, prog_2_method_4_code, prog_3_method_2_code, prog_3_method_3_code, prog_3_method_4_code, prog_3_method_5_code, prog_3_method_6_code, prog_3_method_7_code, prog_3_method_8_code, prog_3_method_9_code, prog_3_method_10_code, prog_3_method_11_code, prog_3_method_12_code, prog_3_method_13_code, prog_3_method_14_code],
  [prog_3_method_15_code, prog_3_method_16_code, prog_3_method_17_code, prog_3_method_18_code, prog_3_method_19_code, prog_3_method_20_code, prog_3_method_21_code, prog_3_method_22_code, prog_3_method_23_code, prog_3_method_24_code, prog_3_method_25_code, prog_3_method_26_code, prog_4_method_2_code, prog_4_method_3_code, prog_4_method_4_code, prog_5_method_2_code],
  [prog_5_method_3_code, prog_5_method_4_code, prog_5_method_5_code, prog_5_method_6_code, prog_5_method_7_code, prog_5_method_8_code, prog_5_method_9_code, prog_5_method_10_code, prog_5_method_11_code, prog_5_method_12_code, prog_5_method_13_code, prog_5_method_14_code, prog_6_method_2_code, prog_6_method_3_code, prog_6_method_4_code, prog_6_method_5_code],
  [prog_6_method_6_code, prog_6_method_7_code, prog_6_method_8_code, prog_6_method_9_code, prog_6_method_10_code, prog_6_method_11_code, prog_6_method_12_code, prog_6_method_13_code, prog_7_method_2_code, prog_7_method_3_code, prog_7_method_4_code, prog_7_method_5_code, prog_7_method_6_code, prog_1_method_2_code, prog_1_method_3_code, prog_1_method_4_code],
  [prog_1_method_5_code, prog_1_method_6_code, prog_1_method_7_code, prog_1_method_8_code, prog_1_method_9_code, prog_1_method_10_code, prog_1_method_11_code, prog_1_method_12_code, prog_1_method_13_code, prog_1_method_14_code, prog_1_method_15_code, prog_1_method_16_code, prog_1_method_17_code, prog_1_method_18_code, prog_1_method_19_code, prog_1_method_20_code],
  [prog_1_method_21_code, prog_1_method_22_code, prog_1_method_23_code, prog_1_method_24_code, prog_1_method_25_code, prog_1_method_26_code, prog_1_method_27_code, prog_1_method_28_code, prog_1_method_29_code, prog_1_method_30_code, prog_1_method_31_code, prog_1_method_32_code, prog_1_method_33_code, prog_1_method_34_code, prog_1_method_35_code, prog_1_method_36_code],
  [prog_1_method_37_code, prog_1_method_38_code, prog_1_method_39_code, prog_1_method_40_code, prog_1_method_41_code, prog_1_method_42_code, prog_1_method_43_code, prog_9_method_3_code, prog_9_method_4_code, prog_9_method_5_code, prog_9_method_6_code, prog_9_method_7_code, prog_9_method_8_code, prog_9_method_9_code, prog_9_method_10_code, prog_9_method_11_code],
  [prog_9_method_12_code, prog_9_method_13_code, prog_9_method_14_code, prog_9_method_15_code, prog_9_method_16_code, prog_9_method_17_code, prog_9_method_18_code, prog_9_method_19_code, prog_9_method_20_code, prog_9_method_21_code, prog_9_method_22_code, prog_9_method_23_code, prog_9_method_24_code, prog_9_method_25_code, prog_9_method_26_code, prog_9_method_27_code],
  [prog_9_method_28_code, prog_9_method_29_code, prog_9_method_30_code, prog_9_method_31_code, prog_9_method_32_code, prog_9_method_33_code, prog_9_method_34_code, prog_9_method_35_code, prog_9_method_36_code, prog_9_method_37_code, prog_9_method_38_code, prog_9_method_39_code, prog_9_method_40_code, prog_9_method_41_code, prog_9_method_42_code, prog_9_method_43_code],
  [prog_9_method_44_code, prog_9_method_45_code, prog_9_method_46_code, prog_9_method_47_code, prog_9_method_48_code, prog_9_method_49_code, prog_9_method_50_code, prog_9_method_51_code, prog_9_method_52_code, prog_9_method_53_code, prog_9_method_54_code, prog_9_method_55_code, prog_9_method_56_code, prog_9_method_57_code, prog_9_method_58_code, prog_9_method_59_code],
  [prog_9_method_60_code, prog_9_method_61_code, prog_9_method_62_code, prog_9_method_63_code, prog_9_method_64_code, prog_9_method_65_code, prog_9_method_66_code, prog_9_method_67_code, prog_9_method_68_code, prog_9_method_69_code, prog_9_method_70_code, prog_9_method_71_code, prog_9_method_72_code, prog_9_method_73_code, prog_9_method_74_code, prog_9_method_75_code],
  [prog_9_method_76_code, prog_9_method_77_code, prog_9_method_78_code, prog_9_method_79_code, prog_9_method_80_code, prog_9_method_81_code, prog_9_method_82_code, prog_9_method_83_code, prog_9_method_84_code, prog_9_method_85_code, prog_9_method_86_code, prog_9_method_87_code, prog_9_method_88_code, prog_10_method_49_code, prog_13_method_103_code, code]]
def tm_cc (J : Nat) : ByteArray := (tm_ccL.getD (J / 16) []).getD (J % 16) code
-- instructions: place, instruction, length, two numbers that say what its operands mean
abbrev tm_E : Type := Nat × Instr × Nat × Nat × Nat
def tm_k0 : List (List tm_E) := [[(0, .aload_n 0, 1, 0, 0), (1, .iconst 0, 1, 0, 0), (2, .putfield 24, 3, 0, 0), (5, .aload_n 0, 1, 0, 0), (6, .iconst 0, 1, 0, 0), (7, .putfield 28, 3, 0, 1), (10, .return_, 1, 0, 0)]]
def tm_k1 : List (List tm_E) := [[(0, .aload_n 0, 1, 0, 0), (1, .getfield 9, 3, 0, 2), (4, .aload_n 0, 1, 0, 0), (5, .getfield 28, 3, 0, 1), (8, .aload_n 1, 1, 0, 0), (9, .getfield 31, 3, 1, 12), (12, .iastore, 1, 0, 0), (13, .aload_n 0, 1, 0, 0), (14, .getfield 15, 3, 0, 3), (17, .aload_n 0, 1, 0, 0), (18, .getfield 28, 3, 0, 1), (21, .aload_n 1, 1, 0, 0), (22, .getfield 36, 3, 1, 13), (25, .iastore, 1, 0, 0), (26, .aload_n 0, 1, 0, 0), (27, .getfield 18, 3, 0, 4), (30, .aload_n 0, 1, 0, 0), (31, .getfield 28, 3, 0, 1)],
  [(34, .aload_n 1, 1, 0, 0), (35, .getfield 39, 3, 1, 14), (38, .iastore, 1, 0, 0), (39, .aload_n 1, 1, 0, 0), (40, .getfield 42, 3, 1, 11), (43, .iconst 0, 1, 0, 0), (44, .aload_n 0, 1, 0, 0), (45, .getfield 21, 3, 0, 5), (48, .aload_n 0, 1, 0, 0), (49, .getfield 28, 3, 0, 1), (52, .iconst 5, 1, 5, 0), (53, .imul, 1, 0, 0), (54, .iconst 5, 1, 5, 0), (55, .invokestatic 43, 3, 999, 5), (58, .aload_n 0, 1, 0, 0), (59, .aload_n 0, 1, 0, 0), (60, .getfield 28, 3, 0, 1), (63, .iconst 1, 1, 1, 0)],
  [(64, .iadd, 1, 0, 0), (65, .bipush 24, 2, 24, 0), (67, .irem, 1, 0, 0), (68, .putfield 28, 3, 0, 1), (71, .aload_n 0, 1, 0, 0), (72, .aload_n 0, 1, 0, 0), (73, .getfield 24, 3, 0, 0), (76, .iconst 1, 1, 1, 0), (77, .iadd, 1, 0, 0), (78, .bipush 24, 2, 24, 0), (80, .invokestatic 49, 3, 996, 2), (83, .putfield 24, 3, 0, 0), (86, .return_, 1, 0, 0)]]
def tm_k2 : List (List tm_E) := [[(0, .aload_n 0, 1, 0, 0), (1, .getfield 24, 3, 0, 0), (4, .ifCond .ne 5, 3, 9, 0), (7, .iconst 0, 1, 0, 0), (8, .ireturn, 1, 0, 0), (9, .aload_n 0, 1, 0, 0), (10, .aload_n 0, 1, 0, 0), (11, .getfield 28, 3, 0, 1), (14, .bipush 24, 2, 24, 0), (16, .iadd, 1, 0, 0), (17, .iconst 1, 1, 1, 0), (18, .isub, 1, 0, 0), (19, .bipush 24, 2, 24, 0), (21, .irem, 1, 0, 0), (22, .putfield 28, 3, 0, 1), (25, .aload_n 0, 1, 0, 0), (26, .dup, 1, 0, 0), (27, .getfield 24, 3, 0, 0), (30, .iconst 1, 1, 1, 0), (31, .isub, 1, 0, 0)],
  [(32, .putfield 24, 3, 0, 0), (35, .aload_n 1, 1, 0, 0), (36, .aload_n 0, 1, 0, 0), (37, .getfield 9, 3, 0, 2), (40, .aload_n 0, 1, 0, 0), (41, .getfield 28, 3, 0, 1), (44, .iaload, 1, 0, 0), (45, .putfield 31, 3, 1, 12), (48, .aload_n 1, 1, 0, 0), (49, .aload_n 0, 1, 0, 0), (50, .getfield 15, 3, 0, 3), (53, .aload_n 0, 1, 0, 0), (54, .getfield 28, 3, 0, 1), (57, .iaload, 1, 0, 0), (58, .putfield 36, 3, 1, 13), (61, .aload_n 1, 1, 0, 0), (62, .aload_n 0, 1, 0, 0), (63, .getfield 18, 3, 0, 4)],
  [(66, .aload_n 0, 1, 0, 0), (67, .getfield 28, 3, 0, 1), (70, .iaload, 1, 0, 0), (71, .putfield 39, 3, 1, 14), (74, .aload_n 0, 1, 0, 0), (75, .getfield 21, 3, 0, 5), (78, .aload_n 0, 1, 0, 0), (79, .getfield 28, 3, 0, 1), (82, .iconst 5, 1, 5, 0), (83, .imul, 1, 0, 0), (84, .aload_n 1, 1, 0, 0), (85, .getfield 42, 3, 1, 11), (88, .iconst 0, 1, 0, 0), (89, .iconst 5, 1, 5, 0), (90, .invokestatic 43, 3, 999, 5), (93, .iconst 1, 1, 1, 0), (94, .ireturn, 1, 0, 0)]]
def tm_k3 : List (List tm_E) := [[(0, .aload_n 0, 1, 0, 0), (1, .getfield 40, 3, 1, 0), (4, .ifCond .le 7, 3, 11, 0), (7, .iconst 1, 1, 1, 0), (8, .goto 4, 3, 12, 0), (11, .iconst 0, 1, 0, 0), (12, .ireturn, 1, 0, 0)]]
def tm_k4 : List (List tm_E) := [[(0, .iconst 1, 1, 1, 0), (1, .aload_n 0, 1, 0, 0), (2, .getfield 43, 3, 1, 3), (5, .ishl, 1, 0, 0), (6, .iconst 1, 1, 1, 0), (7, .isub, 1, 0, 0), (8, .ireturn, 1, 0, 0)]]
def tm_k5 : List (List tm_E) := [[(0, .iload_n 1, 1, 0, 0), (1, .ifCond .lt 15, 3, 16, 0), (4, .iload_n 1, 1, 0, 0), (5, .aload_n 0, 1, 0, 0), (6, .invokevirtual 46, 3, 4, 0), (9, .if_icmp .gt 7, 3, 16, 0), (12, .iconst 1, 1, 1, 0), (13, .goto 4, 3, 17, 0), (16, .iconst 0, 1, 0, 0), (17, .ireturn, 1, 0, 0)]]
def tm_k6 : List (List tm_E) := [[(0, .aload_n 0, 1, 0, 0), (1, .iconst 0, 1, 0, 0), (2, .putfield 40, 3, 1, 0), (5, .aload_n 0, 1, 0, 0), (6, .iconst 0, 1, 0, 0), (7, .putfield 43, 3, 1, 3), (10, .aload_n 0, 1, 0, 0), (11, .iconst 0, 1, 0, 0), (12, .putfield 50, 3, 1, 4), (15, .aload_n 0, 1, 0, 0), (16, .iconst 0, 1, 0, 0), (17, .putfield 53, 3, 1, 12), (20, .aload_n 0, 1, 0, 0), (21, .iconst 0, 1, 0, 0), (22, .putfield 56, 3, 1, 13), (25, .aload_n 0, 1, 0, 0), (26, .iconst 0, 1, 0, 0), (27, .putfield 59, 3, 1, 14), (30, .aload_n 0, 1, 0, 0), (31, .iconst (-1), 1, 1, 1)],
  [(32, .putfield 36, 3, 1, 16), (35, .return_, 1, 0, 0)]]
def tm_k7 : List (List tm_E) := [[(0, .aload_n 0, 1, 0, 0), (1, .aload_n 1, 1, 0, 0), (2, .getfield 40, 3, 1, 0), (5, .putfield 40, 3, 1, 0), (8, .aload_n 0, 1, 0, 0), (9, .aload_n 1, 1, 0, 0), (10, .getfield 43, 3, 1, 3), (13, .putfield 43, 3, 1, 3), (16, .aload_n 0, 1, 0, 0), (17, .aload_n 1, 1, 0, 0), (18, .getfield 50, 3, 1, 4), (21, .putfield 50, 3, 1, 4), (24, .aload_n 1, 1, 0, 0), (25, .getfield 9, 3, 1, 5), (28, .iconst 0, 1, 0, 0), (29, .aload_n 0, 1, 0, 0), (30, .getfield 9, 3, 1, 5)],
  [(33, .iconst 0, 1, 0, 0), (34, .bipush 8, 2, 8, 0), (36, .invokestatic 62, 3, 999, 5), (39, .aload_n 1, 1, 0, 0), (40, .getfield 15, 3, 1, 6), (43, .iconst 0, 1, 0, 0), (44, .aload_n 0, 1, 0, 0), (45, .getfield 15, 3, 1, 6), (48, .iconst 0, 1, 0, 0), (49, .bipush 8, 2, 8, 0), (51, .invokestatic 62, 3, 999, 5), (54, .aload_n 1, 1, 0, 0), (55, .getfield 18, 3, 1, 7), (58, .iconst 0, 1, 0, 0), (59, .aload_n 0, 1, 0, 0), (60, .getfield 18, 3, 1, 7), (63, .iconst 0, 1, 0, 0)],
  [(64, .iconst 5, 1, 5, 0), (65, .invokestatic 62, 3, 999, 5), (68, .aload_n 1, 1, 0, 0), (69, .getfield 21, 3, 1, 8), (72, .iconst 0, 1, 0, 0), (73, .aload_n 0, 1, 0, 0), (74, .getfield 21, 3, 1, 8), (77, .iconst 0, 1, 0, 0), (78, .iconst 5, 1, 5, 0), (79, .invokestatic 62, 3, 999, 5), (82, .aload_n 1, 1, 0, 0), (83, .getfield 24, 3, 1, 9), (86, .iconst 0, 1, 0, 0), (87, .aload_n 0, 1, 0, 0), (88, .getfield 24, 3, 1, 9), (91, .iconst 0, 1, 0, 0), (92, .iconst 5, 1, 5, 0), (93, .invokestatic 62, 3, 999, 5)],
  [(96, .aload_n 1, 1, 0, 0), (97, .getfield 27, 3, 1, 10), (100, .iconst 0, 1, 0, 0), (101, .aload_n 0, 1, 0, 0), (102, .getfield 27, 3, 1, 10), (105, .iconst 0, 1, 0, 0), (106, .iconst 5, 1, 5, 0), (107, .invokestatic 62, 3, 999, 5), (110, .aload_n 0, 1, 0, 0), (111, .iconst (-1), 1, 1, 1), (112, .putfield 36, 3, 1, 16), (115, .aload_n 0, 1, 0, 0), (116, .aload_n 1, 1, 0, 0), (117, .invokevirtual 68, 3, 8, 1), (120, .return_, 1, 0, 0)]]
def tm_k8 : List (List tm_E) := [[(0, .aload_n 0, 1, 0, 0), (1, .aload_n 1, 1, 0, 0), (2, .getfield 72, 3, 1, 1), (5, .putfield 72, 3, 1, 1), (8, .aload_n 0, 1, 0, 0), (9, .aload_n 1, 1, 0, 0), (10, .getfield 75, 3, 1, 2), (13, .putfield 75, 3, 1, 2), (16, .aload_n 0, 1, 0, 0), (17, .aload_n 1, 1, 0, 0), (18, .getfield 53, 3, 1, 12), (21, .putfield 53, 3, 1, 12), (24, .aload_n 0, 1, 0, 0), (25, .aload_n 1, 1, 0, 0), (26, .getfield 56, 3, 1, 13), (29, .putfield 56, 3, 1, 13)],
  [(32, .aload_n 0, 1, 0, 0), (33, .aload_n 1, 1, 0, 0), (34, .getfield 59, 3, 1, 14), (37, .putfield 59, 3, 1, 14), (40, .aload_n 1, 1, 0, 0), (41, .getfield 30, 3, 1, 11), (44, .iconst 0, 1, 0, 0), (45, .aload_n 0, 1, 0, 0), (46, .getfield 30, 3, 1, 11), (49, .iconst 0, 1, 0, 0), (50, .iconst 5, 1, 5, 0), (51, .invokestatic 62, 3, 999, 5), (54, .return_, 1, 0, 0)]]
def tm_k9 : List (List tm_E) := [[(0, .aload_n 0, 1, 0, 0), (1, .getfield 53, 3, 1, 12), (4, .aload_n 1, 1, 0, 0), (5, .getfield 53, 3, 1, 12), (8, .if_icmp .ne 18, 3, 26, 0), (11, .aload_n 0, 1, 0, 0), (12, .getfield 56, 3, 1, 13), (15, .aload_n 1, 1, 0, 0), (16, .getfield 56, 3, 1, 13), (19, .if_icmp .ne 7, 3, 26, 0), (22, .iconst 1, 1, 1, 0), (23, .goto 4, 3, 27, 0), (26, .iconst 0, 1, 0, 0), (27, .ireturn, 1, 0, 0)]]
def tm_k10 : List (List tm_E) := [[(0, .aload_n 0, 1, 0, 0), (1, .getfield 53, 3, 1, 12), (4, .iload_n 1, 1, 0, 0), (5, .ishr, 1, 0, 0), (6, .iconst 1, 1, 1, 0), (7, .iand, 1, 0, 0), (8, .iconst 1, 1, 1, 0), (9, .if_icmp .ne 7, 3, 16, 0), (12, .iconst 1, 1, 1, 0), (13, .goto 4, 3, 17, 0), (16, .iconst 0, 1, 0, 0), (17, .ireturn, 1, 0, 0)]]
def tm_k11 : List (List tm_E) := [[(0, .iconst 1, 1, 1, 0), (1, .aload_n 0, 1, 0, 0), (2, .getfield 9, 3, 1, 5), (5, .iload_n 1, 1, 0, 0), (6, .iaload, 1, 0, 0), (7, .ishl, 1, 0, 0), (8, .iconst 1, 1, 1, 0), (9, .aload_n 0, 1, 0, 0), (10, .getfield 15, 3, 1, 6), (13, .iload_n 1, 1, 0, 0), (14, .iaload, 1, 0, 0), (15, .ishl, 1, 0, 0), (16, .ior, 1, 0, 0), (17, .ireturn, 1, 0, 0)]]
def tm_k12 : List (List tm_E) := [[(0, .aload_n 0, 1, 0, 0), (1, .getfield 30, 3, 1, 11), (4, .iload_n 1, 1, 0, 0), (5, .iaload, 1, 0, 0), (6, .iload_n 2, 1, 0, 0), (7, .ishr, 1, 0, 0), (8, .iconst 1, 1, 1, 0), (9, .iand, 1, 0, 0), (10, .ireturn, 1, 0, 0)]]
def tm_k13 : List (List tm_E) := [[(0, .aload_n 0, 1, 0, 0), (1, .getfield 30, 3, 1, 11), (4, .iload_n 1, 1, 0, 0), (5, .aload_n 0, 1, 0, 0), (6, .getfield 30, 3, 1, 11), (9, .iload_n 1, 1, 0, 0), (10, .iaload, 1, 0, 0), (11, .iconst 1, 1, 1, 0), (12, .iload_n 2, 1, 0, 0), (13, .ishl, 1, 0, 0), (14, .iconst (-1), 1, 1, 1), (15, .ixor, 1, 0, 0), (16, .iand, 1, 0, 0), (17, .iload_n 3, 1, 0, 0), (18, .iload_n 2, 1, 0, 0), (19, .ishl, 1, 0, 0), (20, .ior, 1, 0, 0), (21, .iastore, 1, 0, 0), (22, .return_, 1, 0, 0)]]
def tm_k14 : List (List tm_E) := [[(0, .iconst 1, 1, 1, 0), (1, .iload_n 1, 1, 0, 0), (2, .ishl, 1, 0, 0), (3, .istore_n 2, 1, 0, 0), (4, .iconst 1, 1, 1, 0), (5, .istore_n 3, 1, 0, 0), (6, .iload_n 3, 1, 0, 0), (7, .aload_n 0, 1, 0, 0), (8, .getfield 40, 3, 1, 0), (11, .if_icmp .ge 56, 3, 67, 0), (14, .iconst 0, 1, 0, 0), (15, .istore 4, 2, 0, 0), (17, .iload 4, 2, 0, 0), (19, .aload_n 0, 1, 0, 0), (20, .getfield 43, 3, 1, 3), (23, .if_icmp .ge 38, 3, 61, 0), (26, .aload_n 0, 1, 0, 0), (27, .iload 4, 2, 0, 0), (29, .invokevirtual 78, 3, 10, 1)],
  [(32, .ifCond .eq 23, 3, 55, 0), (35, .iload_n 2, 1, 0, 0), (36, .aload_n 0, 1, 0, 0), (37, .iload 4, 2, 0, 0), (39, .invokevirtual 82, 3, 11, 1), (42, .iand, 1, 0, 0), (43, .ifCond .eq 12, 3, 55, 0), (46, .iload_n 2, 1, 0, 0), (47, .aload_n 0, 1, 0, 0), (48, .iload 4, 2, 0, 0), (50, .invokevirtual 82, 3, 11, 1), (53, .ior, 1, 0, 0), (54, .istore_n 2, 1, 0, 0), (55, .iinc 4 1, 3, 1, 0), (58, .goto (-41), 3, 17, 0), (61, .iinc 3 1, 3, 1, 0)],
  [(64, .goto (-58), 3, 6, 0), (67, .iload_n 2, 1, 0, 0), (68, .ireturn, 1, 0, 0)]]
def tm_k15 : List (List tm_E) := [[(0, .aload_n 0, 1, 0, 0), (1, .aload_n 0, 1, 0, 0), (2, .getfield 21, 3, 1, 8), (5, .iload_n 1, 1, 0, 0), (6, .iaload, 1, 0, 0), (7, .invokevirtual 86, 3, 14, 1), (10, .aload_n 0, 1, 0, 0), (11, .getfield 24, 3, 1, 9), (14, .iload_n 1, 1, 0, 0), (15, .iaload, 1, 0, 0), (16, .ishr, 1, 0, 0), (17, .iconst 1, 1, 1, 0), (18, .iand, 1, 0, 0), (19, .iconst 1, 1, 1, 0), (20, .if_icmp .ne 7, 3, 27, 0), (23, .iconst 1, 1, 1, 0), (24, .goto 4, 3, 28, 0), (27, .iconst 0, 1, 0, 0), (28, .ireturn, 1, 0, 0)]]
def tm_k16 : List (List tm_E) := [[(0, .iconst 0, 1, 0, 0), (1, .istore_n 1, 1, 0, 0), (2, .iconst 0, 1, 0, 0), (3, .istore_n 2, 1, 0, 0), (4, .iload_n 2, 1, 0, 0), (5, .aload_n 0, 1, 0, 0), (6, .getfield 50, 3, 1, 4), (9, .if_icmp .ge 27, 3, 36, 0), (12, .iload_n 1, 1, 0, 0), (13, .aload_n 0, 1, 0, 0), (14, .iload_n 2, 1, 0, 0), (15, .invokevirtual 89, 3, 15, 1), (18, .ifCond .eq 9, 3, 27, 0), (21, .iconst 1, 1, 1, 0), (22, .iload_n 2, 1, 0, 0), (23, .ishl, 1, 0, 0), (24, .goto 4, 3, 28, 0), (27, .iconst 0, 1, 0, 0), (28, .ior, 1, 0, 0), (29, .istore_n 1, 1, 0, 0), (30, .iinc 2 1, 3, 1, 0)],
  [(33, .goto (-29), 3, 4, 0), (36, .iload_n 1, 1, 0, 0), (37, .ireturn, 1, 0, 0)]]
def tm_k17 : List (List tm_E) := [[(0, .aload_n 0, 1, 0, 0), (1, .getfield 21, 3, 1, 8), (4, .iload_n 1, 1, 0, 0), (5, .iaload, 1, 0, 0), (6, .istore_n 2, 1, 0, 0), (7, .iconst 0, 1, 0, 0), (8, .istore_n 3, 1, 0, 0), (9, .iload_n 3, 1, 0, 0), (10, .aload_n 0, 1, 0, 0), (11, .getfield 43, 3, 1, 3), (14, .if_icmp .ge 55, 3, 69, 0), (17, .aload_n 0, 1, 0, 0), (18, .getfield 9, 3, 1, 5), (21, .iload_n 3, 1, 0, 0), (22, .iaload, 1, 0, 0), (23, .iload_n 2, 1, 0, 0), (24, .if_icmp .eq 13, 3, 37, 0), (27, .aload_n 0, 1, 0, 0), (28, .getfield 15, 3, 1, 6), (31, .iload_n 3, 1, 0, 0)],
  [(32, .iaload, 1, 0, 0), (33, .iload_n 2, 1, 0, 0), (34, .if_icmp .ne 7, 3, 41, 0), (37, .iconst 1, 1, 1, 0), (38, .goto 4, 3, 42, 0), (41, .iconst 0, 1, 0, 0), (42, .istore 4, 2, 0, 0), (44, .iload 4, 2, 0, 0), (46, .ifCond .eq 17, 3, 63, 0), (49, .aload_n 0, 1, 0, 0), (50, .getfield 53, 3, 1, 12), (53, .iload_n 3, 1, 0, 0), (54, .ishr, 1, 0, 0), (55, .iconst 1, 1, 1, 0), (56, .iand, 1, 0, 0), (57, .iconst 1, 1, 1, 0), (58, .if_icmp .ne 5, 3, 63, 0), (61, .iconst 0, 1, 0, 0), (62, .ireturn, 1, 0, 0), (63, .iinc 3 1, 3, 1, 0)],
  [(66, .goto (-57), 3, 9, 0), (69, .iconst 1, 1, 1, 0), (70, .ireturn, 1, 0, 0)]]
def tm_k18 : List (List tm_E) := [[(0, .iconst 0, 1, 0, 0), (1, .istore_n 1, 1, 0, 0), (2, .iconst 0, 1, 0, 0), (3, .istore_n 2, 1, 0, 0), (4, .iload_n 2, 1, 0, 0), (5, .aload_n 0, 1, 0, 0), (6, .getfield 50, 3, 1, 4), (9, .if_icmp .ge 27, 3, 36, 0), (12, .iload_n 1, 1, 0, 0), (13, .aload_n 0, 1, 0, 0), (14, .iload_n 2, 1, 0, 0), (15, .invokevirtual 92, 3, 17, 1), (18, .ifCond .eq 9, 3, 27, 0), (21, .iconst 1, 1, 1, 0), (22, .iload_n 2, 1, 0, 0), (23, .ishl, 1, 0, 0), (24, .goto 4, 3, 28, 0), (27, .iconst 0, 1, 0, 0), (28, .ior, 1, 0, 0), (29, .istore_n 1, 1, 0, 0), (30, .iinc 2 1, 3, 1, 0)],
  [(33, .goto (-29), 3, 4, 0), (36, .iload_n 1, 1, 0, 0), (37, .ireturn, 1, 0, 0)]]
def tm_k19 : List (List tm_E) := [[(0, .aload_n 0, 1, 0, 0), (1, .getfield 36, 3, 1, 16), (4, .aload_n 0, 1, 0, 0), (5, .getfield 53, 3, 1, 12), (8, .if_icmp .ne 4, 3, 12, 0), (11, .return_, 1, 0, 0), (12, .aload_n 0, 1, 0, 0), (13, .aload_n 0, 1, 0, 0), (14, .getfield 53, 3, 1, 12), (17, .putfield 36, 3, 1, 16), (20, .aload_n 0, 1, 0, 0), (21, .getfield 33, 3, 1, 15), (24, .bipush 100, 2, 100, 0), (26, .invokestatic 95, 3, 190, 2), (29, .iconst 0, 1, 0, 0), (30, .istore_n 1, 1, 0, 0), (31, .iload_n 1, 1, 0, 0)],
  [(32, .aload_n 0, 1, 0, 0), (33, .getfield 50, 3, 1, 4), (36, .if_icmp .ge 14, 3, 50, 0), (39, .aload_n 0, 1, 0, 0), (40, .iload_n 1, 1, 0, 0), (41, .invokevirtual 101, 3, 20, 1), (44, .iinc 1 1, 3, 1, 0), (47, .goto (-16), 3, 31, 0), (50, .return_, 1, 0, 0)]]
def tm_k20 : List (List tm_E) := [[(0, .iconst 1, 1, 1, 0), (1, .aload_n 0, 1, 0, 0), (2, .getfield 21, 3, 1, 8), (5, .iload_n 1, 1, 0, 0), (6, .iaload, 1, 0, 0), (7, .ishl, 1, 0, 0), (8, .istore_n 2, 1, 0, 0), (9, .iconst 0, 1, 0, 0), (10, .istore_n 3, 1, 0, 0), (11, .iload_n 3, 1, 0, 0), (12, .aload_n 0, 1, 0, 0), (13, .getfield 40, 3, 1, 0), (16, .if_icmp .ge 95, 3, 111, 0), (19, .iload_n 2, 1, 0, 0), (20, .istore 4, 2, 0, 0), (22, .iconst 0, 1, 0, 0), (23, .istore 5, 2, 0, 0), (25, .iload 5, 2, 0, 0), (27, .aload_n 0, 1, 0, 0), (28, .getfield 43, 3, 1, 3), (31, .if_icmp .ge 71, 3, 102, 0)],
  [(34, .iload_n 2, 1, 0, 0), (35, .aload_n 0, 1, 0, 0), (36, .iload 5, 2, 0, 0), (38, .invokevirtual 82, 3, 11, 1), (41, .iand, 1, 0, 0), (42, .ifCond .eq 54, 3, 96, 0), (45, .iload_n 1, 1, 0, 0), (46, .bipush 8, 2, 8, 0), (48, .imul, 1, 0, 0), (49, .iload 5, 2, 0, 0), (51, .iadd, 1, 0, 0), (52, .istore 6, 2, 0, 0), (54, .aload_n 0, 1, 0, 0), (55, .getfield 33, 3, 1, 15), (58, .iload 6, 2, 0, 0), (60, .aload_n 0, 1, 0, 0), (61, .getfield 33, 3, 1, 15)],
  [(64, .iload 6, 2, 0, 0), (66, .iaload, 1, 0, 0), (67, .iload_n 3, 1, 0, 0), (68, .invokestatic 105, 3, 996, 2), (71, .iastore, 1, 0, 0), (72, .iload 4, 2, 0, 0), (74, .aload_n 0, 1, 0, 0), (75, .iload 5, 2, 0, 0), (77, .invokevirtual 78, 3, 10, 1), (80, .ifCond .eq 12, 3, 92, 0), (83, .aload_n 0, 1, 0, 0), (84, .iload 5, 2, 0, 0), (86, .invokevirtual 82, 3, 11, 1), (89, .goto 4, 3, 93, 0), (92, .iconst 0, 1, 0, 0), (93, .ior, 1, 0, 0), (94, .istore 4, 2, 0, 0)],
  [(96, .iinc 5 1, 3, 1, 0), (99, .goto (-74), 3, 25, 0), (102, .iload 4, 2, 0, 0), (104, .istore_n 2, 1, 0, 0), (105, .iinc 3 1, 3, 1, 0), (108, .goto (-97), 3, 11, 0), (111, .return_, 1, 0, 0)]]
def tm_k21 : List (List tm_E) := [[(0, .aload_n 0, 1, 0, 0), (1, .getfield 33, 3, 1, 15), (4, .iload_n 1, 1, 0, 0), (5, .bipush 8, 2, 8, 0), (7, .imul, 1, 0, 0), (8, .iload_n 2, 1, 0, 0), (9, .iadd, 1, 0, 0), (10, .iaload, 1, 0, 0), (11, .ireturn, 1, 0, 0)]]
def tm_k22 : List (List tm_E) := [[(0, .aload_n 0, 1, 0, 0), (1, .getfield 18, 3, 1, 7), (4, .iload_n 1, 1, 0, 0), (5, .iaload, 1, 0, 0), (6, .iconst 5, 1, 5, 0), (7, .if_icmp .ne 5, 3, 12, 0), (10, .iconst 0, 1, 0, 0), (11, .ireturn, 1, 0, 0), (12, .aload_n 0, 1, 0, 0), (13, .iload_n 1, 1, 0, 0), (14, .iload_n 2, 1, 0, 0), (15, .invokevirtual 111, 3, 21, 2), (18, .istore_n 3, 1, 0, 0), (19, .iload_n 3, 1, 0, 0), (20, .aload_n 0, 1, 0, 0), (21, .getfield 72, 3, 1, 1), (24, .if_icmp .gt 16, 3, 40, 0), (27, .iconst 0, 1, 0, 0), (28, .aload_n 0, 1, 0, 0), (29, .getfield 27, 3, 1, 10)],
  [(32, .iload_n 1, 1, 0, 0), (33, .iaload, 1, 0, 0), (34, .iload_n 3, 1, 0, 0), (35, .isub, 1, 0, 0), (36, .invokestatic 114, 3, 997, 2), (39, .ireturn, 1, 0, 0), (40, .aload_n 0, 1, 0, 0), (41, .getfield 18, 3, 1, 7), (44, .iload_n 1, 1, 0, 0), (45, .iaload, 1, 0, 0), (46, .iconst 2, 1, 2, 0), (47, .if_icmp .ne 15, 3, 62, 0), (50, .aload_n 0, 1, 0, 0), (51, .iload_n 1, 1, 0, 0), (52, .invokevirtual 92, 3, 17, 1), (55, .ifCond .eq 7, 3, 62, 0), (58, .iconst 1, 1, 1, 0), (59, .goto 4, 3, 63, 0), (62, .iconst 0, 1, 0, 0), (63, .ireturn, 1, 0, 0)]]
def tm_k23 : List (List tm_E) := [[(0, .aload_n 0, 1, 0, 0), (1, .getfield 18, 3, 1, 7), (4, .iload_n 1, 1, 0, 0), (5, .iaload, 1, 0, 0), (6, .iconst 3, 1, 3, 0), (7, .if_icmp .ne 11, 3, 18, 0), (10, .aload_n 0, 1, 0, 0), (11, .iload_n 2, 1, 0, 0), (12, .invokevirtual 78, 3, 10, 1), (15, .goto 18, 3, 33, 0), (18, .aload_n 0, 1, 0, 0), (19, .iload_n 1, 1, 0, 0), (20, .iload_n 2, 1, 0, 0), (21, .invokevirtual 117, 3, 12, 2), (24, .iconst 1, 1, 1, 0), (25, .if_icmp .ne 7, 3, 32, 0), (28, .iconst 1, 1, 1, 0), (29, .goto 4, 3, 33, 0)],
  [(32, .iconst 0, 1, 0, 0), (33, .ireturn, 1, 0, 0)]]
def tm_k24 : List (List tm_E) := [[(0, .iconst 0, 1, 0, 0), (1, .istore_n 3, 1, 0, 0), (2, .iconst 0, 1, 0, 0), (3, .istore 4, 2, 0, 0), (5, .iload 4, 2, 0, 0), (7, .aload_n 0, 1, 0, 0), (8, .getfield 50, 3, 1, 4), (11, .if_icmp .ge 30, 3, 41, 0), (14, .aload_n 0, 1, 0, 0), (15, .iload 4, 2, 0, 0), (17, .iload_n 1, 1, 0, 0), (18, .invokevirtual 120, 3, 23, 2), (21, .iload_n 2, 1, 0, 0), (22, .if_icmp .ne 13, 3, 35, 0), (25, .iload_n 3, 1, 0, 0), (26, .aload_n 0, 1, 0, 0), (27, .iload 4, 2, 0, 0), (29, .iload_n 1, 1, 0, 0), (30, .invokevirtual 124, 3, 22, 2)],
  [(33, .iadd, 1, 0, 0), (34, .istore_n 3, 1, 0, 0), (35, .iinc 4 1, 3, 1, 0), (38, .goto (-33), 3, 5, 0), (41, .iload_n 3, 1, 0, 0), (42, .ireturn, 1, 0, 0)]]
def tm_k25 : List (List tm_E) := [[(0, .iload_n 2, 1, 0, 0), (1, .iload_n 3, 1, 0, 0), (2, .if_icmp .eq 14, 3, 16, 0), (5, .iload_n 2, 1, 0, 0), (6, .iload_n 3, 1, 0, 0), (7, .if_icmp .le 7, 3, 14, 0), (10, .iconst 1, 1, 1, 0), (11, .goto 4, 3, 15, 0), (14, .iconst 0, 1, 0, 0), (15, .ireturn, 1, 0, 0), (16, .aload_n 0, 1, 0, 0), (17, .getfield 75, 3, 1, 2), (20, .iconst 1, 1, 1, 0), (21, .if_icmp .eq 19, 3, 40, 0), (24, .aload_n 0, 1, 0, 0), (25, .getfield 75, 3, 1, 2), (28, .iconst 2, 1, 2, 0), (29, .if_icmp .ne 15, 3, 44, 0)],
  [(32, .aload_n 0, 1, 0, 0), (33, .iload_n 1, 1, 0, 0), (34, .invokevirtual 78, 3, 10, 1), (37, .ifCond .eq 7, 3, 44, 0), (40, .iconst 1, 1, 1, 0), (41, .goto 4, 3, 45, 0), (44, .iconst 0, 1, 0, 0), (45, .ireturn, 1, 0, 0)]]
def tm_k26 : List (List tm_E) := [[(0, .iconst 0, 1, 0, 0), (1, .istore_n 2, 1, 0, 0), (2, .iload_n 2, 1, 0, 0), (3, .aload_n 0, 1, 0, 0), (4, .getfield 50, 3, 1, 4), (7, .if_icmp .ge 76, 3, 83, 0), (10, .aload_n 0, 1, 0, 0), (11, .getfield 18, 3, 1, 7), (14, .iload_n 2, 1, 0, 0), (15, .iaload, 1, 0, 0), (16, .iconst 4, 1, 4, 0), (17, .if_icmp .ne 18, 3, 35, 0), (20, .aload_n 0, 1, 0, 0), (21, .getfield 56, 3, 1, 13), (24, .iload_n 2, 1, 0, 0), (25, .ishr, 1, 0, 0), (26, .iconst 1, 1, 1, 0), (27, .iand, 1, 0, 0), (28, .ifCond .ne 7, 3, 35, 0), (31, .iconst 1, 1, 1, 0)],
  [(32, .goto 4, 3, 36, 0), (35, .iconst 0, 1, 0, 0), (36, .istore_n 3, 1, 0, 0), (37, .iload_n 3, 1, 0, 0), (38, .ifCond .eq 39, 3, 77, 0), (41, .aload_n 0, 1, 0, 0), (42, .iload_n 2, 1, 0, 0), (43, .iload_n 1, 1, 0, 0), (44, .invokevirtual 111, 3, 21, 2), (47, .aload_n 0, 1, 0, 0), (48, .getfield 72, 3, 1, 1), (51, .if_icmp .gt 26, 3, 77, 0), (54, .aload_n 0, 1, 0, 0), (55, .iload_n 2, 1, 0, 0), (56, .iload_n 1, 1, 0, 0), (57, .invokevirtual 117, 3, 12, 2), (60, .ifCond .ne 17, 3, 77, 0), (63, .aload_n 0, 1, 0, 0)],
  [(64, .dup, 1, 0, 0), (65, .getfield 56, 3, 1, 13), (68, .iconst 1, 1, 1, 0), (69, .iload_n 2, 1, 0, 0), (70, .ishl, 1, 0, 0), (71, .ior, 1, 0, 0), (72, .putfield 56, 3, 1, 13), (75, .iconst 1, 1, 1, 0), (76, .ireturn, 1, 0, 0), (77, .iinc 2 1, 3, 1, 0), (80, .goto (-78), 3, 2, 0), (83, .iconst 0, 1, 0, 0), (84, .ireturn, 1, 0, 0)]]
def tm_k27 : List (List tm_E) := [[(0, .aload_n 0, 1, 0, 0), (1, .invokevirtual 127, 3, 19, 0), (4, .iconst 0, 1, 0, 0), (5, .istore_n 1, 1, 0, 0), (6, .iconst 0, 1, 0, 0), (7, .istore_n 2, 1, 0, 0), (8, .iload_n 2, 1, 0, 0), (9, .aload_n 0, 1, 0, 0), (10, .getfield 43, 3, 1, 3), (13, .if_icmp .ge 43, 3, 56, 0), (16, .aload_n 0, 1, 0, 0), (17, .iload_n 2, 1, 0, 0), (18, .aload_n 0, 1, 0, 0), (19, .iload_n 2, 1, 0, 0), (20, .iconst 1, 1, 1, 0), (21, .invokevirtual 130, 3, 24, 2), (24, .aload_n 0, 1, 0, 0), (25, .iload_n 2, 1, 0, 0), (26, .iconst 0, 1, 0, 0), (27, .invokevirtual 130, 3, 24, 2), (30, .invokevirtual 134, 3, 25, 3)],
  [(33, .ifCond .eq 17, 3, 50, 0), (36, .aload_n 0, 1, 0, 0), (37, .iload_n 2, 1, 0, 0), (38, .invokevirtual 138, 3, 26, 1), (41, .ifCond .ne 9, 3, 50, 0), (44, .iload_n 1, 1, 0, 0), (45, .iconst 1, 1, 1, 0), (46, .iload_n 2, 1, 0, 0), (47, .ishl, 1, 0, 0), (48, .ior, 1, 0, 0), (49, .istore_n 1, 1, 0, 0), (50, .iinc 2 1, 3, 1, 0), (53, .goto (-45), 3, 8, 0), (56, .aload_n 0, 1, 0, 0), (57, .iload_n 1, 1, 0, 0), (58, .putfield 53, 3, 1, 12), (61, .aload_n 0, 1, 0, 0), (62, .dup, 1, 0, 0), (63, .getfield 59, 3, 1, 14)],
  [(66, .iconst 1, 1, 1, 0), (67, .iadd, 1, 0, 0), (68, .putfield 59, 3, 1, 14), (71, .return_, 1, 0, 0)]]
def tm_k28 : List (List tm_E) := [[(0, .aload_n 0, 1, 0, 0), (1, .iconst 1, 1, 1, 0), (2, .putfield 15, 3, 2, 1), (5, .aload_n 0, 1, 0, 0), (6, .iload_n 1, 1, 0, 0), (7, .putfield 19, 3, 2, 2), (10, .aload_n 0, 1, 0, 0), (11, .iload_n 2, 1, 0, 0), (12, .putfield 23, 3, 2, 3), (15, .aload_n 0, 1, 0, 0), (16, .getfield 9, 3, 2, 0), (19, .iconst 0, 1, 0, 0), (20, .invokestatic 26, 3, 190, 2), (23, .return_, 1, 0, 0)]]
def tm_k29 : List (List tm_E) := [[(0, .aload_n 0, 1, 0, 0), (1, .getfield 19, 3, 2, 2), (4, .lookupswitch 34 #[(0, 28), (1, 31)], 28, 0, 0)],
  [(32, .iload_n 1, 1, 0, 0), (33, .i2b, 1, 0, 0), (34, .ireturn, 1, 0, 0), (35, .iload_n 1, 1, 0, 0), (36, .i2s, 1, 0, 0), (37, .ireturn, 1, 0, 0), (38, .iload_n 1, 1, 0, 0), (39, .ireturn, 1, 0, 0)]]
def tm_k30 : List (List tm_E) := [[(0, .iload_n 1, 1, 0, 0), (1, .ifCond .lt 29, 3, 30, 0), (4, .iload_n 2, 1, 0, 0), (5, .ifCond .lt 25, 3, 30, 0), (8, .iload_n 2, 1, 0, 0), (9, .aload_n 0, 1, 0, 0), (10, .getfield 23, 3, 2, 3), (13, .if_icmp .gt 17, 3, 30, 0), (16, .iload_n 1, 1, 0, 0), (17, .aload_n 0, 1, 0, 0), (18, .getfield 23, 3, 2, 3), (21, .iload_n 2, 1, 0, 0), (22, .isub, 1, 0, 0), (23, .if_icmp .gt 7, 3, 30, 0), (26, .iconst 1, 1, 1, 0), (27, .goto 4, 3, 31, 0), (30, .iconst 0, 1, 0, 0), (31, .ireturn, 1, 0, 0)]]
def tm_k31 : List (List tm_E) := [[(0, .aload_n 0, 1, 0, 0), (1, .getfield 12, 3, 3, 6), (4, .aload_n 1, 1, 0, 0), (5, .invokevirtual 21, 3, 7, 1), (8, .iconst 0, 1, 0, 0), (9, .istore_n 3, 1, 0, 0), (10, .iload_n 3, 1, 0, 0), (11, .iload_n 2, 1, 0, 0), (12, .if_icmp .ge 16, 3, 28, 0), (15, .aload_n 0, 1, 0, 0), (16, .getfield 12, 3, 3, 6), (19, .invokevirtual 25, 3, 27, 0), (22, .iinc 3 1, 3, 1, 0), (25, .goto (-15), 3, 10, 0), (28, .aload_n 0, 1, 0, 0), (29, .getfield 12, 3, 3, 6)],
  [(32, .areturn, 1, 0, 0)]]
def tm_k32 : List (List tm_E) := [[(0, .aload_n 0, 1, 0, 0), (1, .getfield 12, 3, 3, 6), (4, .aload_n 1, 1, 0, 0), (5, .invokevirtual 21, 3, 7, 1), (8, .aload_n 0, 1, 0, 0), (9, .getfield 18, 3, 3, 7), (12, .aload_n 1, 1, 0, 0), (13, .invokevirtual 21, 3, 7, 1), (16, .iconst 0, 1, 0, 0), (17, .istore_n 2, 1, 0, 0), (18, .iconst 1, 1, 1, 0), (19, .istore_n 3, 1, 0, 0), (20, .iconst 0, 1, 0, 0), (21, .istore 4, 2, 0, 0), (23, .iload 4, 2, 0, 0), (25, .ldc 28, 2, 1000000, 0), (27, .if_icmp .ge 57, 3, 84, 0), (30, .aload_n 0, 1, 0, 0), (31, .getfield 18, 3, 3, 7)],
  [(34, .invokevirtual 25, 3, 27, 0), (37, .iinc 2 1, 3, 1, 0), (40, .aload_n 0, 1, 0, 0), (41, .getfield 18, 3, 3, 7), (44, .aload_n 0, 1, 0, 0), (45, .getfield 12, 3, 3, 6), (48, .invokevirtual 29, 3, 9, 1), (51, .ifCond .eq 5, 3, 56, 0), (54, .iload_n 2, 1, 0, 0), (55, .ireturn, 1, 0, 0), (56, .iload_n 2, 1, 0, 0), (57, .iload_n 3, 1, 0, 0), (58, .if_icmp .ne 20, 3, 78, 0), (61, .aload_n 0, 1, 0, 0), (62, .getfield 12, 3, 3, 6)],
  [(65, .aload_n 0, 1, 0, 0), (66, .getfield 18, 3, 3, 7), (69, .invokevirtual 33, 3, 8, 1), (72, .iload_n 3, 1, 0, 0), (73, .iconst 2, 1, 2, 0), (74, .imul, 1, 0, 0), (75, .istore_n 3, 1, 0, 0), (76, .iconst 0, 1, 0, 0), (77, .istore_n 2, 1, 0, 0), (78, .iinc 4 1, 3, 1, 0), (81, .goto (-58), 3, 23, 0), (84, .iload_n 2, 1, 0, 0), (85, .ireturn, 1, 0, 0)]]
def tm_k33 : List (List tm_E) := [[(0, .aload_n 0, 1, 0, 0), (1, .getfield 12, 3, 3, 6), (4, .aload_n 1, 1, 0, 0), (5, .invokevirtual 21, 3, 7, 1), (8, .aload_n 0, 1, 0, 0), (9, .getfield 18, 3, 3, 7), (12, .aload_n 1, 1, 0, 0), (13, .invokevirtual 21, 3, 7, 1), (16, .iconst 0, 1, 0, 0), (17, .istore_n 3, 1, 0, 0), (18, .iload_n 3, 1, 0, 0), (19, .iload_n 2, 1, 0, 0), (20, .if_icmp .ge 16, 3, 36, 0), (23, .aload_n 0, 1, 0, 0), (24, .getfield 18, 3, 3, 7), (27, .invokevirtual 25, 3, 27, 0), (30, .iinc 3 1, 3, 1, 0)],
  [(33, .goto (-15), 3, 18, 0), (36, .iconst 0, 1, 0, 0), (37, .istore_n 3, 1, 0, 0), (38, .iload_n 3, 1, 0, 0), (39, .ldc 28, 2, 1000000, 0), (41, .if_icmp .ge 37, 3, 78, 0), (44, .aload_n 0, 1, 0, 0), (45, .getfield 18, 3, 3, 7), (48, .aload_n 0, 1, 0, 0), (49, .getfield 12, 3, 3, 6), (52, .invokevirtual 29, 3, 9, 1), (55, .ifCond .ne 23, 3, 78, 0), (58, .aload_n 0, 1, 0, 0), (59, .getfield 12, 3, 3, 6), (62, .invokevirtual 25, 3, 27, 0)],
  [(65, .aload_n 0, 1, 0, 0), (66, .getfield 18, 3, 3, 7), (69, .invokevirtual 25, 3, 27, 0), (72, .iinc 3 1, 3, 1, 0), (75, .goto (-37), 3, 38, 0), (78, .iload_n 3, 1, 0, 0), (79, .ireturn, 1, 0, 0)]]
def tm_k34 : List (List tm_E) := [[(0, .aload_n 0, 1, 0, 0), (1, .getfield 12, 3, 3, 6), (4, .aload_n 1, 1, 0, 0), (5, .invokevirtual 21, 3, 7, 1), (8, .ldc 36, 2, 1000000, 1), (10, .istore 5, 2, 0, 0), (12, .bipush 6, 2, 6, 0), (14, .istore 6, 2, 0, 0), (16, .iconst 0, 1, 0, 0), (17, .istore 7, 2, 0, 0), (19, .iload 7, 2, 0, 0), (21, .iconst 1, 1, 1, 0), (22, .aload_n 1, 1, 0, 0), (23, .getfield 37, 3, 1, 4), (26, .ishl, 1, 0, 0), (27, .if_icmp .ge 45, 3, 72, 0), (30, .iload 7, 2, 0, 0)],
  [(32, .invokestatic 41, 3, 189, 1), (35, .istore 8, 2, 0, 0), (37, .iload 8, 2, 0, 0), (39, .iload 6, 2, 0, 0), (41, .if_icmp .ge 25, 3, 66, 0), (44, .aload_n 0, 1, 0, 0), (45, .aload_n 1, 1, 0, 0), (46, .iload 7, 2, 0, 0), (48, .iload_n 2, 1, 0, 0), (49, .iload_n 3, 1, 0, 0), (50, .iload 4, 2, 0, 0), (52, .invokevirtual 47, 3, 35, 5), (55, .ifCond .eq 11, 3, 66, 0), (58, .iload 7, 2, 0, 0), (60, .istore 5, 2, 0, 0), (62, .iload 8, 2, 0, 0)],
  [(64, .istore 6, 2, 0, 0), (66, .iinc 7 1, 3, 1, 0), (69, .goto (-50), 3, 19, 0), (72, .iload 5, 2, 0, 0), (74, .ireturn, 1, 0, 0)]]
def tm_k35 : List (List tm_E) := [[(0, .aload_n 0, 1, 0, 0), (1, .getfield 12, 3, 3, 6), (4, .aload_n 1, 1, 0, 0), (5, .invokevirtual 33, 3, 8, 1), (8, .iconst 0, 1, 0, 0), (9, .istore 6, 2, 0, 0), (11, .iload 6, 2, 0, 0), (13, .aload_n 1, 1, 0, 0), (14, .getfield 37, 3, 1, 4), (17, .if_icmp .ge 31, 3, 48, 0), (20, .iload_n 2, 1, 0, 0), (21, .iload 6, 2, 0, 0), (23, .ishr, 1, 0, 0), (24, .iconst 1, 1, 1, 0), (25, .iand, 1, 0, 0), (26, .iconst 1, 1, 1, 0), (27, .if_icmp .ne 15, 3, 42, 0), (30, .aload_n 0, 1, 0, 0), (31, .getfield 12, 3, 3, 6)],
  [(34, .iload 6, 2, 0, 0), (36, .iload_n 3, 1, 0, 0), (37, .iload 4, 2, 0, 0), (39, .invokevirtual 51, 3, 13, 3), (42, .iinc 6 1, 3, 1, 0), (45, .goto (-34), 3, 11, 0), (48, .iconst 0, 1, 0, 0), (49, .istore 6, 2, 0, 0), (51, .iload 6, 2, 0, 0), (53, .iload 5, 2, 0, 0), (55, .if_icmp .ge 34, 3, 89, 0), (58, .aload_n 0, 1, 0, 0), (59, .getfield 12, 3, 3, 6), (62, .invokevirtual 25, 3, 27, 0)],
  [(65, .aload_n 0, 1, 0, 0), (66, .getfield 12, 3, 3, 6), (69, .getfield 55, 3, 1, 12), (72, .iload_n 3, 1, 0, 0), (73, .ishr, 1, 0, 0), (74, .iconst 1, 1, 1, 0), (75, .iand, 1, 0, 0), (76, .iload 4, 2, 0, 0), (78, .if_icmp .eq 5, 3, 83, 0), (81, .iconst 0, 1, 0, 0), (82, .ireturn, 1, 0, 0), (83, .iinc 6 1, 3, 1, 0), (86, .goto (-35), 3, 51, 0), (89, .iconst 1, 1, 1, 0), (90, .ireturn, 1, 0, 0)]]
def tm_k36 : List (List tm_E) := [[(0, .aload_n 0, 1, 0, 0), (1, .getfield 12, 3, 3, 6), (4, .aload_n 1, 1, 0, 0), (5, .invokevirtual 21, 3, 7, 1), (8, .aload_n 0, 1, 0, 0), (9, .getfield 12, 3, 3, 6), (12, .invokevirtual 25, 3, 27, 0), (15, .aload_n 0, 1, 0, 0), (16, .iload_n 2, 1, 0, 0), (17, .iload_n 3, 1, 0, 0), (18, .invokevirtual 58, 3, 38, 2), (21, .ifCond .eq 6, 3, 27, 0), (24, .ldc 36, 2, 1000000, 1), (26, .ireturn, 1, 0, 0), (27, .iconst 0, 1, 0, 0), (28, .istore 4, 2, 0, 0), (30, .iload 4, 2, 0, 0)],
  [(32, .aload_n 1, 1, 0, 0), (33, .getfield 62, 3, 1, 3), (36, .if_icmp .ge 57, 3, 93, 0), (39, .iconst 0, 1, 0, 0), (40, .istore 5, 2, 0, 0), (42, .iload 5, 2, 0, 0), (44, .aload_n 1, 1, 0, 0), (45, .getfield 62, 3, 1, 3), (48, .if_icmp .ge 39, 3, 87, 0), (51, .iload 4, 2, 0, 0), (53, .iload 5, 2, 0, 0), (55, .if_icmp .eq 26, 3, 81, 0), (58, .aload_n 0, 1, 0, 0), (59, .aload_n 1, 1, 0, 0), (60, .iload_n 2, 1, 0, 0), (61, .iload_n 3, 1, 0, 0), (62, .iload 4, 2, 0, 0)],
  [(64, .iload 5, 2, 0, 0), (66, .invokevirtual 65, 3, 37, 5), (69, .ifCond .eq 12, 3, 81, 0), (72, .bipush 8, 2, 8, 0), (74, .iload 4, 2, 0, 0), (76, .imul, 1, 0, 0), (77, .iload 5, 2, 0, 0), (79, .iadd, 1, 0, 0), (80, .ireturn, 1, 0, 0), (81, .iinc 5 1, 3, 1, 0), (84, .goto (-42), 3, 42, 0), (87, .iinc 4 1, 3, 1, 0), (90, .goto (-60), 3, 30, 0), (93, .ldc 36, 2, 1000000, 1), (95, .ireturn, 1, 0, 0)]]
def tm_k37 : List (List tm_E) := [[(0, .aload_n 0, 1, 0, 0), (1, .getfield 12, 3, 3, 6), (4, .aload_n 1, 1, 0, 0), (5, .invokevirtual 33, 3, 8, 1), (8, .aload_n 0, 1, 0, 0), (9, .getfield 12, 3, 3, 6), (12, .iload_n 2, 1, 0, 0), (13, .iload 4, 2, 0, 0), (15, .aload_n 1, 1, 0, 0), (16, .iload_n 3, 1, 0, 0), (17, .iload 4, 2, 0, 0), (19, .invokevirtual 68, 3, 12, 2), (22, .invokevirtual 51, 3, 13, 3), (25, .aload_n 0, 1, 0, 0), (26, .getfield 12, 3, 3, 6), (29, .iload_n 3, 1, 0, 0), (30, .iload 5, 2, 0, 0)],
  [(32, .aload_n 1, 1, 0, 0), (33, .iload_n 2, 1, 0, 0), (34, .iload 5, 2, 0, 0), (36, .invokevirtual 68, 3, 12, 2), (39, .invokevirtual 51, 3, 13, 3), (42, .aload_n 0, 1, 0, 0), (43, .getfield 12, 3, 3, 6), (46, .invokevirtual 25, 3, 27, 0), (49, .aload_n 0, 1, 0, 0), (50, .iload_n 2, 1, 0, 0), (51, .iload_n 3, 1, 0, 0), (52, .invokevirtual 58, 3, 38, 2), (55, .ireturn, 1, 0, 0)]]
def tm_k38 : List (List tm_E) := [[(0, .aload_n 0, 1, 0, 0), (1, .getfield 12, 3, 3, 6), (4, .iload_n 1, 1, 0, 0), (5, .invokevirtual 72, 3, 15, 1), (8, .ifCond .eq 18, 3, 26, 0), (11, .aload_n 0, 1, 0, 0), (12, .getfield 12, 3, 3, 6), (15, .iload_n 2, 1, 0, 0), (16, .invokevirtual 72, 3, 15, 1), (19, .ifCond .eq 7, 3, 26, 0), (22, .iconst 1, 1, 1, 0), (23, .goto 4, 3, 27, 0), (26, .iconst 0, 1, 0, 0), (27, .ireturn, 1, 0, 0)]]
def tm_k39 : List (List tm_E) := [[(0, .aload_n 0, 1, 0, 0), (1, .getfield 12, 3, 3, 6), (4, .aload_n 1, 1, 0, 0), (5, .invokevirtual 21, 3, 7, 1), (8, .iconst 0, 1, 0, 0), (9, .istore_n 3, 1, 0, 0), (10, .iload_n 3, 1, 0, 0), (11, .aload_n 1, 1, 0, 0), (12, .invokevirtual 76, 3, 4, 0), (15, .if_icmp .gt 47, 3, 62, 0), (18, .aload_n 0, 1, 0, 0), (19, .getfield 12, 3, 3, 6), (22, .aload_n 1, 1, 0, 0), (23, .invokevirtual 33, 3, 8, 1), (26, .aload_n 0, 1, 0, 0), (27, .getfield 12, 3, 3, 6), (30, .getfield 80, 3, 1, 11)],
  [(33, .iload_n 2, 1, 0, 0), (34, .iload_n 3, 1, 0, 0), (35, .iastore, 1, 0, 0), (36, .aload_n 0, 1, 0, 0), (37, .getfield 12, 3, 3, 6), (40, .invokevirtual 25, 3, 27, 0), (43, .aload_n 0, 1, 0, 0), (44, .getfield 12, 3, 3, 6), (47, .iload_n 2, 1, 0, 0), (48, .invokevirtual 72, 3, 15, 1), (51, .ifCond .eq 5, 3, 56, 0), (54, .iload_n 3, 1, 0, 0), (55, .ireturn, 1, 0, 0), (56, .iinc 3 1, 3, 1, 0), (59, .goto (-49), 3, 10, 0), (62, .ldc 36, 2, 1000000, 1)],
  [(64, .ireturn, 1, 0, 0)]]
def tm_k40 : List (List tm_E) := [[(0, .aload_n 0, 1, 0, 0), (1, .getfield 12, 3, 3, 6), (4, .aload_n 1, 1, 0, 0), (5, .invokevirtual 21, 3, 7, 1), (8, .aload_n 0, 1, 0, 0), (9, .iconst (-1), 1, 1, 1), (10, .putfield 84, 3, 3, 2), (13, .iconst 0, 1, 0, 0), (14, .istore_n 3, 1, 0, 0), (15, .iload_n 3, 1, 0, 0), (16, .iconst 3, 1, 3, 0), (17, .if_icmp .gt 61, 3, 78, 0), (20, .iconst 0, 1, 0, 0), (21, .istore 4, 2, 0, 0), (23, .iload 4, 2, 0, 0), (25, .iconst 2, 1, 2, 0), (26, .if_icmp .gt 46, 3, 72, 0), (29, .aload_n 0, 1, 0, 0), (30, .aload_n 1, 1, 0, 0), (31, .iload_n 3, 1, 0, 0)],
  [(32, .iload 4, 2, 0, 0), (34, .iload_n 2, 1, 0, 0), (35, .invokevirtual 87, 3, 41, 4), (38, .istore 5, 2, 0, 0), (40, .iload 5, 2, 0, 0), (42, .aload_n 0, 1, 0, 0), (43, .getfield 84, 3, 3, 2), (46, .if_icmp .le 20, 3, 66, 0), (49, .aload_n 0, 1, 0, 0), (50, .iload_n 3, 1, 0, 0), (51, .putfield 91, 3, 3, 0), (54, .aload_n 0, 1, 0, 0), (55, .iload 4, 2, 0, 0), (57, .putfield 94, 3, 3, 1), (60, .aload_n 0, 1, 0, 0), (61, .iload 5, 2, 0, 0), (63, .putfield 84, 3, 3, 2)],
  [(66, .iinc 4 1, 3, 1, 0), (69, .goto (-46), 3, 23, 0), (72, .iinc 3 1, 3, 1, 0), (75, .goto (-60), 3, 15, 0), (78, .return_, 1, 0, 0)]]
def tm_k41 : List (List tm_E) := [[(0, .aload_n 0, 1, 0, 0), (1, .getfield 12, 3, 3, 6), (4, .aload_n 1, 1, 0, 0), (5, .invokevirtual 33, 3, 8, 1), (8, .aload_n 0, 1, 0, 0), (9, .getfield 12, 3, 3, 6), (12, .iload_n 2, 1, 0, 0), (13, .putfield 97, 3, 1, 1), (16, .aload_n 0, 1, 0, 0), (17, .getfield 12, 3, 3, 6), (20, .iload_n 3, 1, 0, 0), (21, .putfield 100, 3, 1, 2), (24, .iconst 0, 1, 0, 0), (25, .istore 5, 2, 0, 0), (27, .iload 5, 2, 0, 0), (29, .iload 4, 2, 0, 0), (31, .if_icmp .ge 16, 3, 47, 0)],
  [(34, .aload_n 0, 1, 0, 0), (35, .getfield 12, 3, 3, 6), (38, .invokevirtual 25, 3, 27, 0), (41, .iinc 5 1, 3, 1, 0), (44, .goto (-17), 3, 27, 0), (47, .aload_n 0, 1, 0, 0), (48, .getfield 12, 3, 3, 6), (51, .invokevirtual 103, 3, 16, 0), (54, .invokestatic 41, 3, 189, 1), (57, .ireturn, 1, 0, 0)]]
def tm_k42 : List (List tm_E) := [[(0, .aload_n 0, 1, 0, 0), (1, .getfield 12, 3, 3, 6), (4, .aload_n 1, 1, 0, 0), (5, .invokevirtual 21, 3, 7, 1), (8, .aload_n 0, 1, 0, 0), (9, .iconst 0, 1, 0, 0), (10, .putfield 106, 3, 3, 3), (13, .aload_n 0, 1, 0, 0), (14, .aload_n 1, 1, 0, 0), (15, .invokevirtual 76, 3, 4, 0), (18, .putfield 109, 3, 3, 4), (21, .aload_n 0, 1, 0, 0), (22, .aload_n 1, 1, 0, 0), (23, .invokevirtual 76, 3, 4, 0), (26, .putfield 112, 3, 3, 5), (29, .iconst 0, 1, 0, 0), (30, .istore 4, 2, 0, 0)],
  [(32, .iload 4, 2, 0, 0), (34, .aload_n 1, 1, 0, 0), (35, .invokevirtual 76, 3, 4, 0), (38, .if_icmp .gt 76, 3, 114, 0), (41, .aload_n 0, 1, 0, 0), (42, .getfield 12, 3, 3, 6), (45, .iload 4, 2, 0, 0), (47, .putfield 55, 3, 1, 12), (50, .aload_n 0, 1, 0, 0), (51, .getfield 12, 3, 3, 6), (54, .invokevirtual 103, 3, 16, 0), (57, .istore 5, 2, 0, 0), (59, .iload 5, 2, 0, 0), (61, .iload_n 2, 1, 0, 0), (62, .iand, 1, 0, 0), (63, .iload_n 2, 1, 0, 0)],
  [(64, .if_icmp .ne 44, 3, 108, 0), (67, .iload 5, 2, 0, 0), (69, .iload_n 3, 1, 0, 0), (70, .iand, 1, 0, 0), (71, .ifCond .ne 37, 3, 108, 0), (74, .aload_n 0, 1, 0, 0), (75, .dup, 1, 0, 0), (76, .getfield 106, 3, 3, 3), (79, .iconst 1, 1, 1, 0), (80, .iadd, 1, 0, 0), (81, .putfield 106, 3, 3, 3), (84, .aload_n 0, 1, 0, 0), (85, .dup, 1, 0, 0), (86, .getfield 109, 3, 3, 4), (89, .iload 4, 2, 0, 0), (91, .iand, 1, 0, 0), (92, .putfield 109, 3, 3, 4), (95, .aload_n 0, 1, 0, 0)],
  [(96, .dup, 1, 0, 0), (97, .getfield 112, 3, 3, 5), (100, .iload 4, 2, 0, 0), (102, .iconst (-1), 1, 1, 1), (103, .ixor, 1, 0, 0), (104, .iand, 1, 0, 0), (105, .putfield 112, 3, 3, 5), (108, .iinc 4 1, 3, 1, 0), (111, .goto (-79), 3, 32, 0), (114, .return_, 1, 0, 0)]]
def tm_k43 : List (List tm_E) := [[(0, .aload_n 0, 1, 0, 0), (1, .getfield 12, 3, 3, 6), (4, .aload_n 1, 1, 0, 0), (5, .invokevirtual 21, 3, 7, 1), (8, .iconst 0, 1, 0, 0), (9, .istore_n 3, 1, 0, 0), (10, .iconst 0, 1, 0, 0), (11, .istore 4, 2, 0, 0), (13, .iload 4, 2, 0, 0), (15, .aload_n 1, 1, 0, 0), (16, .getfield 37, 3, 1, 4), (19, .if_icmp .ge 85, 3, 104, 0), (22, .iconst 0, 1, 0, 0), (23, .istore 5, 2, 0, 0), (25, .iload 5, 2, 0, 0), (27, .aload_n 1, 1, 0, 0), (28, .getfield 62, 3, 1, 3), (31, .if_icmp .ge 67, 3, 98, 0)],
  [(34, .aload_n 0, 1, 0, 0), (35, .getfield 12, 3, 3, 6), (38, .aload_n 1, 1, 0, 0), (39, .invokevirtual 33, 3, 8, 1), (42, .aload_n 0, 1, 0, 0), (43, .getfield 12, 3, 3, 6), (46, .iload 4, 2, 0, 0), (48, .iload 5, 2, 0, 0), (50, .iconst 1, 1, 1, 0), (51, .aload_n 1, 1, 0, 0), (52, .iload 4, 2, 0, 0), (54, .iload 5, 2, 0, 0), (56, .invokevirtual 68, 3, 12, 2), (59, .isub, 1, 0, 0), (60, .invokevirtual 51, 3, 13, 3), (63, .aload_n 0, 1, 0, 0)],
  [(64, .getfield 12, 3, 3, 6), (67, .invokevirtual 25, 3, 27, 0), (70, .iload_n 3, 1, 0, 0), (71, .aload_n 0, 1, 0, 0), (72, .getfield 12, 3, 3, 6), (75, .getfield 55, 3, 1, 12), (78, .iload_n 2, 1, 0, 0), (79, .if_icmp .ne 10, 3, 89, 0), (82, .iconst 1, 1, 1, 0), (83, .iload 4, 2, 0, 0), (85, .ishl, 1, 0, 0), (86, .goto 4, 3, 90, 0), (89, .iconst 0, 1, 0, 0), (90, .ior, 1, 0, 0), (91, .istore_n 3, 1, 0, 0), (92, .iinc 5 1, 3, 1, 0), (95, .goto (-70), 3, 25, 0)],
  [(98, .iinc 4 1, 3, 1, 0), (101, .goto (-88), 3, 13, 0), (104, .iload_n 3, 1, 0, 0), (105, .ireturn, 1, 0, 0)]]
def tm_k44 : List (List tm_E) := [[(0, .aload_n 0, 1, 0, 0), (1, .getfield 15, 3, 4, 1), (4, .sipush 160, 3, 160, 0), (7, .if_icmp .lt 5, 3, 12, 0), (10, .iconst 0, 1, 0, 0), (11, .ireturn, 1, 0, 0), (12, .aload_n 0, 1, 0, 0), (13, .getfield 9, 3, 4, 0), (16, .aload_n 0, 1, 0, 0), (17, .getfield 15, 3, 4, 1), (20, .iload_n 1, 1, 0, 0), (21, .iastore, 1, 0, 0), (22, .aload_n 0, 1, 0, 0), (23, .dup, 1, 0, 0), (24, .getfield 15, 3, 4, 1), (27, .iconst 1, 1, 1, 0), (28, .iadd, 1, 0, 0), (29, .putfield 15, 3, 4, 1)],
  [(32, .iconst 1, 1, 1, 0), (33, .ireturn, 1, 0, 0)]]
def tm_k45 : List (List tm_E) := [[(0, .aload_n 0, 1, 0, 0), (1, .iconst 0, 1, 0, 0), (2, .putfield 19, 3, 4, 4), (5, .aload_n 1, 1, 0, 0), (6, .invokevirtual 22, 3, 6, 0), (9, .aload_n 0, 1, 0, 0), (10, .aload_n 1, 1, 0, 0), (11, .invokevirtual 27, 3, 46, 1), (14, .ifCond .eq 23, 3, 37, 0), (17, .aload_n 0, 1, 0, 0), (18, .aload_n 1, 1, 0, 0), (19, .invokevirtual 31, 3, 47, 1), (22, .ifCond .eq 15, 3, 37, 0), (25, .aload_n 0, 1, 0, 0), (26, .aload_n 1, 1, 0, 0), (27, .invokevirtual 34, 3, 49, 1), (30, .ifCond .eq 7, 3, 37, 0)],
  [(33, .iconst 1, 1, 1, 0), (34, .goto 4, 3, 38, 0), (37, .iconst 0, 1, 0, 0), (38, .ireturn, 1, 0, 0)]]
def tm_k46 : List (List tm_E) := [[(0, .aload_n 0, 1, 0, 0), (1, .bipush 112, 2, 112, 0), (3, .invokevirtual 37, 3, 52, 1), (6, .ifCond .eq 13, 3, 19, 0), (9, .aload_n 0, 1, 0, 0), (10, .iconst 2, 1, 2, 0), (11, .bipush 6, 2, 6, 0), (13, .invokevirtual 41, 3, 53, 2), (16, .ifCond .ne 5, 3, 21, 0), (19, .iconst 0, 1, 0, 0), (20, .ireturn, 1, 0, 0), (21, .aload_n 1, 1, 0, 0), (22, .aload_n 0, 1, 0, 0), (23, .getfield 45, 3, 4, 5), (26, .putfield 48, 3, 1, 0), (29, .aload_n 0, 1, 0, 0), (30, .bipush 44, 2, 44, 0)],
  [(32, .invokevirtual 37, 3, 52, 1), (35, .ifCond .eq 12, 3, 47, 0), (38, .aload_n 0, 1, 0, 0), (39, .iconst 0, 1, 0, 0), (40, .iconst 3, 1, 3, 0), (41, .invokevirtual 41, 3, 53, 2), (44, .ifCond .ne 5, 3, 49, 0), (47, .iconst 0, 1, 0, 0), (48, .ireturn, 1, 0, 0), (49, .aload_n 1, 1, 0, 0), (50, .aload_n 0, 1, 0, 0), (51, .getfield 45, 3, 4, 5), (54, .putfield 51, 3, 1, 1), (57, .aload_n 0, 1, 0, 0), (58, .bipush 44, 2, 44, 0), (60, .invokevirtual 37, 3, 52, 1), (63, .ifCond .eq 12, 3, 75, 0)],
  [(66, .aload_n 0, 1, 0, 0), (67, .iconst 0, 1, 0, 0), (68, .iconst 2, 1, 2, 0), (69, .invokevirtual 41, 3, 53, 2), (72, .ifCond .ne 5, 3, 77, 0), (75, .iconst 0, 1, 0, 0), (76, .ireturn, 1, 0, 0), (77, .aload_n 1, 1, 0, 0), (78, .aload_n 0, 1, 0, 0), (79, .getfield 45, 3, 4, 5), (82, .putfield 54, 3, 1, 2), (85, .aload_n 0, 1, 0, 0), (86, .bipush 59, 2, 59, 0), (88, .invokevirtual 37, 3, 52, 1), (91, .ireturn, 1, 0, 0)]]
def tm_k47 : List (List tm_E) := [[(0, .iconst 0, 1, 0, 0), (1, .istore_n 2, 1, 0, 0), (2, .iload_n 2, 1, 0, 0), (3, .bipush 8, 2, 8, 0), (5, .if_icmp .gt 78, 3, 83, 0), (8, .aload_n 0, 1, 0, 0), (9, .getfield 19, 3, 4, 4), (12, .aload_n 0, 1, 0, 0), (13, .getfield 15, 3, 4, 1), (16, .if_icmp .ge 67, 3, 83, 0), (19, .aload_n 0, 1, 0, 0), (20, .getfield 9, 3, 4, 0), (23, .aload_n 0, 1, 0, 0), (24, .getfield 19, 3, 4, 4), (27, .iaload, 1, 0, 0), (28, .bipush 103, 2, 103, 0), (30, .if_icmp .ne 53, 3, 83, 0)],
  [(33, .iload_n 2, 1, 0, 0), (34, .bipush 8, 2, 8, 0), (36, .if_icmp .ne 13, 3, 49, 0), (39, .aload_n 0, 1, 0, 0), (40, .iconst 3, 1, 3, 0), (41, .aload_n 0, 1, 0, 0), (42, .getfield 19, 3, 4, 4), (45, .invokevirtual 57, 3, 55, 2), (48, .ireturn, 1, 0, 0), (49, .aload_n 0, 1, 0, 0), (50, .dup, 1, 0, 0), (51, .getfield 19, 3, 4, 4), (54, .iconst 1, 1, 1, 0), (55, .iadd, 1, 0, 0), (56, .putfield 19, 3, 4, 4), (59, .aload_n 0, 1, 0, 0), (60, .aload_n 1, 1, 0, 0), (61, .iload_n 2, 1, 0, 0), (62, .invokevirtual 60, 3, 48, 2)],
  [(65, .ifCond .ne 5, 3, 70, 0), (68, .iconst 0, 1, 0, 0), (69, .ireturn, 1, 0, 0), (70, .aload_n 1, 1, 0, 0), (71, .iload_n 2, 1, 0, 0), (72, .iconst 1, 1, 1, 0), (73, .iadd, 1, 0, 0), (74, .putfield 64, 3, 1, 3), (77, .iinc 2 1, 3, 1, 0), (80, .goto (-78), 3, 2, 0), (83, .iconst 1, 1, 1, 0), (84, .ireturn, 1, 0, 0)]]
def tm_k48 : List (List tm_E) := [[(0, .aload_n 0, 1, 0, 0), (1, .iconst 0, 1, 0, 0), (2, .aload_n 1, 1, 0, 0), (3, .getfield 48, 3, 1, 0), (6, .iconst 1, 1, 1, 0), (7, .isub, 1, 0, 0), (8, .invokevirtual 41, 3, 53, 2), (11, .ifCond .ne 5, 3, 16, 0), (14, .iconst 0, 1, 0, 0), (15, .ireturn, 1, 0, 0), (16, .aload_n 1, 1, 0, 0), (17, .getfield 67, 3, 1, 5), (20, .iload_n 2, 1, 0, 0), (21, .aload_n 0, 1, 0, 0), (22, .getfield 45, 3, 4, 5), (25, .iastore, 1, 0, 0), (26, .aload_n 0, 1, 0, 0), (27, .bipush 44, 2, 44, 0), (29, .invokevirtual 37, 3, 52, 1)],
  [(32, .ifCond .ne 5, 3, 37, 0), (35, .iconst 0, 1, 0, 0), (36, .ireturn, 1, 0, 0), (37, .aload_n 0, 1, 0, 0), (38, .getfield 19, 3, 4, 4), (41, .istore_n 3, 1, 0, 0), (42, .aload_n 0, 1, 0, 0), (43, .iconst 0, 1, 0, 0), (44, .aload_n 1, 1, 0, 0), (45, .getfield 48, 3, 1, 0), (48, .iconst 1, 1, 1, 0), (49, .isub, 1, 0, 0), (50, .invokevirtual 41, 3, 53, 2), (53, .ifCond .ne 5, 3, 58, 0), (56, .iconst 0, 1, 0, 0), (57, .ireturn, 1, 0, 0), (58, .aload_n 1, 1, 0, 0), (59, .getfield 70, 3, 1, 6), (62, .iload_n 2, 1, 0, 0), (63, .aload_n 0, 1, 0, 0)],
  [(64, .getfield 45, 3, 4, 5), (67, .iastore, 1, 0, 0), (68, .aload_n 1, 1, 0, 0), (69, .getfield 67, 3, 1, 5), (72, .iload_n 2, 1, 0, 0), (73, .iaload, 1, 0, 0), (74, .aload_n 0, 1, 0, 0), (75, .getfield 45, 3, 4, 5), (78, .if_icmp .ne 10, 3, 88, 0), (81, .aload_n 0, 1, 0, 0), (82, .iconst 2, 1, 2, 0), (83, .iload_n 3, 1, 0, 0), (84, .invokevirtual 57, 3, 55, 2), (87, .ireturn, 1, 0, 0), (88, .aload_n 0, 1, 0, 0), (89, .bipush 44, 2, 44, 0), (91, .invokevirtual 37, 3, 52, 1), (94, .ifCond .eq 12, 3, 106, 0)],
  [(97, .aload_n 0, 1, 0, 0), (98, .iconst 0, 1, 0, 0), (99, .iconst 1, 1, 1, 0), (100, .invokevirtual 41, 3, 53, 2), (103, .ifCond .ne 5, 3, 108, 0), (106, .iconst 0, 1, 0, 0), (107, .ireturn, 1, 0, 0), (108, .aload_n 1, 1, 0, 0), (109, .dup, 1, 0, 0), (110, .getfield 73, 3, 1, 12), (113, .aload_n 0, 1, 0, 0), (114, .getfield 45, 3, 4, 5), (117, .iload_n 2, 1, 0, 0), (118, .ishl, 1, 0, 0), (119, .ior, 1, 0, 0), (120, .putfield 73, 3, 1, 12), (123, .aload_n 0, 1, 0, 0), (124, .bipush 59, 2, 59, 0), (126, .invokevirtual 37, 3, 52, 1)],
  [(129, .ireturn, 1, 0, 0)]]
def tm_k49 : List (List tm_E) := [[(0, .iconst 0, 1, 0, 0), (1, .istore_n 2, 1, 0, 0), (2, .iload_n 2, 1, 0, 0), (3, .iconst 5, 1, 5, 0), (4, .if_icmp .gt 97, 3, 101, 0), (7, .aload_n 0, 1, 0, 0), (8, .getfield 19, 3, 4, 4), (11, .aload_n 0, 1, 0, 0), (12, .getfield 15, 3, 4, 1), (15, .if_icmp .ge 86, 3, 101, 0), (18, .aload_n 0, 1, 0, 0), (19, .getfield 9, 3, 4, 0), (22, .aload_n 0, 1, 0, 0), (23, .getfield 19, 3, 4, 4), (26, .iaload, 1, 0, 0), (27, .invokestatic 76, 3, 51, 1), (30, .istore_n 3, 1, 0, 0), (31, .iload_n 3, 1, 0, 0)],
  [(32, .ifCond .ne 13, 3, 45, 0), (35, .aload_n 0, 1, 0, 0), (36, .iconst 1, 1, 1, 0), (37, .aload_n 0, 1, 0, 0), (38, .getfield 19, 3, 4, 4), (41, .invokevirtual 57, 3, 55, 2), (44, .ireturn, 1, 0, 0), (45, .iload_n 2, 1, 0, 0), (46, .iconst 5, 1, 5, 0), (47, .if_icmp .ne 13, 3, 60, 0), (50, .aload_n 0, 1, 0, 0), (51, .iconst 3, 1, 3, 0), (52, .aload_n 0, 1, 0, 0), (53, .getfield 19, 3, 4, 4), (56, .invokevirtual 57, 3, 55, 2), (59, .ireturn, 1, 0, 0), (60, .aload_n 0, 1, 0, 0), (61, .dup, 1, 0, 0), (62, .getfield 19, 3, 4, 4)],
  [(65, .iconst 1, 1, 1, 0), (66, .iadd, 1, 0, 0), (67, .putfield 19, 3, 4, 4), (70, .aload_n 1, 1, 0, 0), (71, .getfield 80, 3, 1, 7), (74, .iload_n 2, 1, 0, 0), (75, .iload_n 3, 1, 0, 0), (76, .iastore, 1, 0, 0), (77, .aload_n 0, 1, 0, 0), (78, .aload_n 1, 1, 0, 0), (79, .iload_n 2, 1, 0, 0), (80, .invokevirtual 83, 3, 50, 2), (83, .ifCond .ne 5, 3, 88, 0), (86, .iconst 0, 1, 0, 0), (87, .ireturn, 1, 0, 0), (88, .aload_n 1, 1, 0, 0), (89, .iload_n 2, 1, 0, 0), (90, .iconst 1, 1, 1, 0), (91, .iadd, 1, 0, 0), (92, .putfield 86, 3, 1, 4), (95, .iinc 2 1, 3, 1, 0)],
  [(98, .goto (-96), 3, 2, 0), (101, .iconst 1, 1, 1, 0), (102, .ireturn, 1, 0, 0)]]
def tm_k50 : List (List tm_E) := [[(0, .aload_n 0, 1, 0, 0), (1, .iconst 0, 1, 0, 0), (2, .aload_n 1, 1, 0, 0), (3, .getfield 48, 3, 1, 0), (6, .iconst 1, 1, 1, 0), (7, .isub, 1, 0, 0), (8, .invokevirtual 41, 3, 53, 2), (11, .ifCond .ne 5, 3, 16, 0), (14, .iconst 0, 1, 0, 0), (15, .ireturn, 1, 0, 0), (16, .aload_n 1, 1, 0, 0), (17, .getfield 89, 3, 1, 8), (20, .iload_n 2, 1, 0, 0), (21, .aload_n 0, 1, 0, 0), (22, .getfield 45, 3, 4, 5), (25, .iastore, 1, 0, 0), (26, .aload_n 0, 1, 0, 0), (27, .bipush 44, 2, 44, 0), (29, .invokevirtual 37, 3, 52, 1)],
  [(32, .ifCond .eq 17, 3, 49, 0), (35, .aload_n 0, 1, 0, 0), (36, .iconst 0, 1, 0, 0), (37, .aload_n 1, 1, 0, 0), (38, .getfield 48, 3, 1, 0), (41, .iconst 1, 1, 1, 0), (42, .isub, 1, 0, 0), (43, .invokevirtual 41, 3, 53, 2), (46, .ifCond .ne 5, 3, 51, 0), (49, .iconst 0, 1, 0, 0), (50, .ireturn, 1, 0, 0), (51, .aload_n 1, 1, 0, 0), (52, .getfield 92, 3, 1, 9), (55, .iload_n 2, 1, 0, 0), (56, .aload_n 0, 1, 0, 0), (57, .getfield 45, 3, 4, 5), (60, .iastore, 1, 0, 0), (61, .aload_n 0, 1, 0, 0), (62, .bipush 44, 2, 44, 0)],
  [(64, .invokevirtual 37, 3, 52, 1), (67, .ifCond .eq 15, 3, 82, 0), (70, .aload_n 0, 1, 0, 0), (71, .iconst 0, 1, 0, 0), (72, .aload_n 1, 1, 0, 0), (73, .invokevirtual 95, 3, 4, 0), (76, .invokevirtual 41, 3, 53, 2), (79, .ifCond .ne 5, 3, 84, 0), (82, .iconst 0, 1, 0, 0), (83, .ireturn, 1, 0, 0), (84, .aload_n 1, 1, 0, 0), (85, .getfield 99, 3, 1, 11), (88, .iload_n 2, 1, 0, 0), (89, .aload_n 0, 1, 0, 0), (90, .getfield 45, 3, 4, 5), (93, .iastore, 1, 0, 0), (94, .aload_n 0, 1, 0, 0), (95, .bipush 44, 2, 44, 0)],
  [(97, .invokevirtual 37, 3, 52, 1), (100, .ifCond .eq 13, 3, 113, 0), (103, .aload_n 0, 1, 0, 0), (104, .iconst 0, 1, 0, 0), (105, .bipush 20, 2, 20, 0), (107, .invokevirtual 41, 3, 53, 2), (110, .ifCond .ne 5, 3, 115, 0), (113, .iconst 0, 1, 0, 0), (114, .ireturn, 1, 0, 0), (115, .aload_n 1, 1, 0, 0), (116, .getfield 102, 3, 1, 10), (119, .iload_n 2, 1, 0, 0), (120, .aload_n 0, 1, 0, 0), (121, .getfield 45, 3, 4, 5), (124, .iastore, 1, 0, 0), (125, .aload_n 0, 1, 0, 0), (126, .bipush 59, 2, 59, 0)],
  [(128, .invokevirtual 37, 3, 52, 1), (131, .ireturn, 1, 0, 0)]]
def tm_k51 : List (List tm_E) := [[(0, .iload_n 0, 1, 0, 0), (1, .tableswitch 73 109 120 #[67, 73, 73, 73, 73, 73, 71, 73, 73, 63, 65, 69], 63, 0, 0)],
  [],
  [(64, .iconst 1, 1, 1, 0), (65, .ireturn, 1, 0, 0), (66, .iconst 2, 1, 2, 0), (67, .ireturn, 1, 0, 0), (68, .iconst 3, 1, 3, 0), (69, .ireturn, 1, 0, 0), (70, .iconst 4, 1, 4, 0), (71, .ireturn, 1, 0, 0), (72, .iconst 5, 1, 5, 0), (73, .ireturn, 1, 0, 0), (74, .iconst 0, 1, 0, 0), (75, .ireturn, 1, 0, 0)]]
def tm_k52 : List (List tm_E) := [[(0, .aload_n 0, 1, 0, 0), (1, .getfield 19, 3, 4, 4), (4, .aload_n 0, 1, 0, 0), (5, .getfield 15, 3, 4, 1), (8, .if_icmp .ge 16, 3, 24, 0), (11, .aload_n 0, 1, 0, 0), (12, .getfield 9, 3, 4, 0), (15, .aload_n 0, 1, 0, 0), (16, .getfield 19, 3, 4, 4), (19, .iaload, 1, 0, 0), (20, .iload_n 1, 1, 0, 0), (21, .if_icmp .eq 13, 3, 34, 0), (24, .aload_n 0, 1, 0, 0), (25, .iconst 1, 1, 1, 0), (26, .aload_n 0, 1, 0, 0), (27, .getfield 19, 3, 4, 4), (30, .invokevirtual 57, 3, 55, 2)],
  [(33, .ireturn, 1, 0, 0), (34, .aload_n 0, 1, 0, 0), (35, .dup, 1, 0, 0), (36, .getfield 19, 3, 4, 4), (39, .iconst 1, 1, 1, 0), (40, .iadd, 1, 0, 0), (41, .putfield 19, 3, 4, 4), (44, .iconst 1, 1, 1, 0), (45, .ireturn, 1, 0, 0)]]
def tm_k53 : List (List tm_E) := [[(0, .aload_n 0, 1, 0, 0), (1, .getfield 19, 3, 4, 4), (4, .istore_n 3, 1, 0, 0), (5, .iconst 0, 1, 0, 0), (6, .istore 4, 2, 0, 0), (8, .iload_n 3, 1, 0, 0), (9, .aload_n 0, 1, 0, 0), (10, .getfield 15, 3, 4, 1), (13, .if_icmp .ge 53, 3, 66, 0), (16, .aload_n 0, 1, 0, 0), (17, .getfield 9, 3, 4, 0), (20, .iload_n 3, 1, 0, 0), (21, .iaload, 1, 0, 0), (22, .invokestatic 105, 3, 54, 1), (25, .ifCond .eq 41, 3, 66, 0), (28, .iload_n 3, 1, 0, 0), (29, .aload_n 0, 1, 0, 0), (30, .getfield 19, 3, 4, 4)],
  [(33, .iconst 3, 1, 3, 0), (34, .iadd, 1, 0, 0), (35, .if_icmp .ge 21, 3, 56, 0), (38, .bipush 10, 2, 10, 0), (40, .iload 4, 2, 0, 0), (42, .imul, 1, 0, 0), (43, .aload_n 0, 1, 0, 0), (44, .getfield 9, 3, 4, 0), (47, .iload_n 3, 1, 0, 0), (48, .iaload, 1, 0, 0), (49, .iadd, 1, 0, 0), (50, .bipush 48, 2, 48, 0), (52, .isub, 1, 0, 0), (53, .goto 5, 3, 58, 0), (56, .iload 4, 2, 0, 0), (58, .istore 4, 2, 0, 0), (60, .iinc 3 1, 3, 1, 0), (63, .goto (-55), 3, 8, 0)],
  [(66, .iload_n 3, 1, 0, 0), (67, .aload_n 0, 1, 0, 0), (68, .getfield 19, 3, 4, 4), (71, .if_icmp .eq 13, 3, 84, 0), (74, .iload_n 3, 1, 0, 0), (75, .aload_n 0, 1, 0, 0), (76, .getfield 19, 3, 4, 4), (79, .iconst 3, 1, 3, 0), (80, .iadd, 1, 0, 0), (81, .if_icmp .le 13, 3, 94, 0), (84, .aload_n 0, 1, 0, 0), (85, .iconst 1, 1, 1, 0), (86, .aload_n 0, 1, 0, 0), (87, .getfield 19, 3, 4, 4), (90, .invokevirtual 57, 3, 55, 2), (93, .ireturn, 1, 0, 0), (94, .iload 4, 2, 0, 0)],
  [(96, .iload_n 1, 1, 0, 0), (97, .if_icmp .lt 9, 3, 106, 0), (100, .iload 4, 2, 0, 0), (102, .iload_n 2, 1, 0, 0), (103, .if_icmp .le 13, 3, 116, 0), (106, .aload_n 0, 1, 0, 0), (107, .iconst 2, 1, 2, 0), (108, .aload_n 0, 1, 0, 0), (109, .getfield 19, 3, 4, 4), (112, .invokevirtual 57, 3, 55, 2), (115, .ireturn, 1, 0, 0), (116, .aload_n 0, 1, 0, 0), (117, .iload_n 3, 1, 0, 0), (118, .putfield 19, 3, 4, 4), (121, .aload_n 0, 1, 0, 0), (122, .iload 4, 2, 0, 0), (124, .putfield 45, 3, 4, 5), (127, .iconst 1, 1, 1, 0)],
  [(128, .ireturn, 1, 0, 0)]]
def tm_k54 : List (List tm_E) := [[(0, .iload_n 0, 1, 0, 0), (1, .bipush 48, 2, 48, 0), (3, .if_icmp .lt 13, 3, 16, 0), (6, .iload_n 0, 1, 0, 0), (7, .bipush 57, 2, 57, 0), (9, .if_icmp .gt 7, 3, 16, 0), (12, .iconst 1, 1, 1, 0), (13, .goto 4, 3, 17, 0), (16, .iconst 0, 1, 0, 0), (17, .ireturn, 1, 0, 0)]]
def tm_k55 : List (List tm_E) := [[(0, .aload_n 0, 1, 0, 0), (1, .iload_n 1, 1, 0, 0), (2, .putfield 108, 3, 4, 2), (5, .aload_n 0, 1, 0, 0), (6, .iload_n 2, 1, 0, 0), (7, .putfield 111, 3, 4, 3), (10, .iconst 0, 1, 0, 0), (11, .ireturn, 1, 0, 0)]]
def tm_k56 : List (List tm_E) := [[(0, .aload_n 0, 1, 0, 0), (1, .getfield 15, 3, 5, 1), (4, .bipush 16, 2, 16, 0), (6, .if_icmp .ge 23, 3, 29, 0), (9, .aload_n 0, 1, 0, 0), (10, .getfield 9, 3, 5, 0), (13, .aload_n 0, 1, 0, 0), (14, .getfield 15, 3, 5, 1), (17, .iload_n 1, 1, 0, 0), (18, .iastore, 1, 0, 0), (19, .aload_n 0, 1, 0, 0), (20, .dup, 1, 0, 0), (21, .getfield 15, 3, 5, 1), (24, .iconst 1, 1, 1, 0), (25, .iadd, 1, 0, 0), (26, .putfield 15, 3, 5, 1), (29, .return_, 1, 0, 0)]]
def tm_k57 : List (List tm_E) := [[(0, .iload_n 0, 1, 0, 0), (1, .tableswitch 47 1 5 #[35, 38, 35, 41, 44], 35, 0, 0)],
  [(36, .bipush 11, 2, 11, 0), (38, .ireturn, 1, 0, 0), (39, .bipush 12, 2, 12, 0), (41, .ireturn, 1, 0, 0), (42, .bipush 13, 2, 13, 0), (44, .ireturn, 1, 0, 0), (45, .bipush 14, 2, 14, 0), (47, .ireturn, 1, 0, 0), (48, .bipush 10, 2, 10, 0), (50, .ireturn, 1, 0, 0)]]
def tm_k58 : List (List tm_E) := [[(0, .iload_n 0, 1, 0, 0), (1, .tableswitch 47 1 5 #[35, 44, 38, 41, 41], 35, 0, 0)],
  [(36, .bipush 21, 2, 21, 0), (38, .ireturn, 1, 0, 0), (39, .bipush 22, 2, 22, 0), (41, .ireturn, 1, 0, 0), (42, .bipush 23, 2, 23, 0), (44, .ireturn, 1, 0, 0), (45, .bipush 24, 2, 24, 0), (47, .ireturn, 1, 0, 0), (48, .bipush 20, 2, 20, 0), (50, .ireturn, 1, 0, 0)]]
def tm_k59 : List (List tm_E) := [[(0, .aload_n 0, 1, 0, 0), (1, .iconst 0, 1, 0, 0), (2, .putfield 15, 3, 5, 1), (5, .aload_n 0, 1, 0, 0), (6, .aload_n 1, 1, 0, 0), (7, .iload_n 2, 1, 0, 0), (8, .iload_n 3, 1, 0, 0), (9, .iconst 0, 1, 0, 0), (10, .invokestatic 19, 3, 60, 5), (13, .ireturn, 1, 0, 0)]]
def tm_k60 : List (List tm_E) := [[(0, .iload 4, 2, 0, 0), (2, .bipush 12, 2, 12, 0), (4, .if_icmp .le 5, 3, 9, 0), (7, .iconst 0, 1, 0, 0), (8, .ireturn, 1, 0, 0), (9, .aload_n 0, 1, 0, 0), (10, .iload_n 3, 1, 0, 0), (11, .invokevirtual 23, 3, 56, 1), (14, .iload 4, 2, 0, 0), (16, .iconst 1, 1, 1, 0), (17, .iadd, 1, 0, 0), (18, .istore 5, 2, 0, 0), (20, .aload_n 1, 1, 0, 0), (21, .getfield 27, 3, 1, 7), (24, .iload_n 2, 1, 0, 0), (25, .iaload, 1, 0, 0), (26, .istore 6, 2, 0, 0), (28, .iload_n 3, 1, 0, 0), (29, .tableswitch 226 10 24 #[75, 82, 107, 119, 133, 226, 226, 226, 226, 226, 146, 148, 173, 188, 213], 75, 0, 0)],
  [],
  [],
  [(104, .aload_n 1, 1, 0, 0), (105, .getfield 32, 3, 1, 10), (108, .iload_n 2, 1, 0, 0), (109, .iaload, 1, 0, 0), (110, .ireturn, 1, 0, 0), (111, .aload_n 0, 1, 0, 0), (112, .aload_n 1, 1, 0, 0), (113, .iload_n 2, 1, 0, 0), (114, .bipush 10, 2, 10, 0), (116, .iload 5, 2, 0, 0), (118, .invokestatic 19, 3, 60, 5), (121, .aload_n 0, 1, 0, 0), (122, .aload_n 1, 1, 0, 0), (123, .iload_n 2, 1, 0, 0), (124, .iload 6, 2, 0, 0), (126, .invokestatic 35, 3, 58, 1)],
  [(129, .iload 5, 2, 0, 0), (131, .invokestatic 19, 3, 60, 5), (134, .iadd, 1, 0, 0), (135, .ireturn, 1, 0, 0), (136, .aload_n 0, 1, 0, 0), (137, .aload_n 1, 1, 0, 0), (138, .iload_n 2, 1, 0, 0), (139, .bipush 11, 2, 11, 0), (141, .iload 5, 2, 0, 0), (143, .invokestatic 19, 3, 60, 5), (146, .ineg, 1, 0, 0), (147, .ireturn, 1, 0, 0), (148, .aload_n 0, 1, 0, 0), (149, .aload_n 1, 1, 0, 0), (150, .iload_n 2, 1, 0, 0), (151, .bipush 10, 2, 10, 0), (153, .iload 5, 2, 0, 0), (155, .invokestatic 19, 3, 60, 5), (158, .bipush 100, 2, 100, 0)],
  [(160, .isub, 1, 0, 0), (161, .ireturn, 1, 0, 0), (162, .iconst 2, 1, 2, 0), (163, .aload_n 0, 1, 0, 0), (164, .aload_n 1, 1, 0, 0), (165, .iload_n 2, 1, 0, 0), (166, .bipush 13, 2, 13, 0), (168, .iload 5, 2, 0, 0), (170, .invokestatic 19, 3, 60, 5), (173, .imul, 1, 0, 0), (174, .ireturn, 1, 0, 0), (175, .iload_n 2, 1, 0, 0), (176, .ireturn, 1, 0, 0), (177, .aload_n 0, 1, 0, 0), (178, .aload_n 1, 1, 0, 0), (179, .iload_n 2, 1, 0, 0), (180, .bipush 20, 2, 20, 0), (182, .iload 5, 2, 0, 0), (184, .invokestatic 19, 3, 60, 5), (187, .aload_n 1, 1, 0, 0), (188, .aload_n 1, 1, 0, 0), (189, .getfield 39, 3, 1, 8)],
  [(192, .iload_n 2, 1, 0, 0), (193, .iaload, 1, 0, 0), (194, .invokevirtual 42, 3, 14, 1), (197, .invokestatic 45, 3, 189, 1), (200, .iadd, 1, 0, 0), (201, .ireturn, 1, 0, 0), (202, .aload_n 0, 1, 0, 0), (203, .aload_n 1, 1, 0, 0), (204, .iload_n 2, 1, 0, 0), (205, .bipush 21, 2, 21, 0), (207, .iload 5, 2, 0, 0), (209, .invokestatic 19, 3, 60, 5), (212, .sipush 1000, 3, 1000, 0), (215, .isub, 1, 0, 0), (216, .ireturn, 1, 0, 0), (217, .aload_n 0, 1, 0, 0), (218, .aload_n 1, 1, 0, 0), (219, .iload_n 2, 1, 0, 0), (220, .bipush 20, 2, 20, 0), (222, .iload 5, 2, 0, 0)],
  [(224, .invokestatic 19, 3, 60, 5), (227, .aload_n 0, 1, 0, 0), (228, .aload_n 1, 1, 0, 0), (229, .iload_n 2, 1, 0, 0), (230, .iload 6, 2, 0, 0), (232, .invokestatic 50, 3, 57, 1), (235, .iload 5, 2, 0, 0), (237, .invokestatic 19, 3, 60, 5), (240, .isub, 1, 0, 0), (241, .ireturn, 1, 0, 0), (242, .iconst 2, 1, 2, 0), (243, .aload_n 0, 1, 0, 0), (244, .aload_n 1, 1, 0, 0), (245, .iload_n 2, 1, 0, 0), (246, .bipush 21, 2, 21, 0), (248, .iload 5, 2, 0, 0), (250, .invokestatic 19, 3, 60, 5), (253, .imul, 1, 0, 0), (254, .ireturn, 1, 0, 0), (255, .iconst 0, 1, 0, 0)],
  [(256, .ireturn, 1, 0, 0)]]
def tm_k61 : List (List tm_E) := [[(0, .iload_n 1, 1, 0, 0), (1, .bipush 8, 2, 8, 0), (3, .invokestatic 58, 3, 94, 2), (6, .ifCond .eq 18, 3, 24, 0), (9, .iload_n 2, 1, 0, 0), (10, .ifCond .lt 14, 3, 24, 0), (13, .iload_n 2, 1, 0, 0), (14, .iconst 2, 1, 2, 0), (15, .if_icmp .gt 9, 3, 24, 0), (18, .iload_n 3, 1, 0, 0), (19, .bipush 40, 2, 40, 0), (21, .if_icmp .le 6, 3, 27, 0), (24, .ldc 62, 2, 1000001, 1), (26, .ireturn, 1, 0, 0), (27, .iload_n 3, 1, 0, 0), (28, .ifCond .ge 9, 3, 37, 0), (31, .aload_n 0, 1, 0, 0)],
  [(32, .iconst 4, 1, 4, 0), (33, .invokevirtual 63, 3, 95, 1), (36, .ireturn, 1, 0, 0), (37, .aload_n 0, 1, 0, 0), (38, .getfield 11, 3, 6, 0), (41, .iload_n 1, 1, 0, 0), (42, .aaload, 1, 0, 0), (43, .iload_n 2, 1, 0, 0), (44, .iload_n 3, 1, 0, 0), (45, .invokevirtual 67, 3, 28, 2), (48, .aload_n 0, 1, 0, 0), (49, .iload_n 3, 1, 0, 0), (50, .invokevirtual 71, 3, 96, 1), (53, .ireturn, 1, 0, 0)]]
def tm_k62 : List (List tm_E) := [[(0, .iload_n 1, 1, 0, 0), (1, .bipush 8, 2, 8, 0), (3, .invokestatic 58, 3, 94, 2), (6, .ifCond .ne 6, 3, 12, 0), (9, .ldc 62, 2, 1000001, 1), (11, .ireturn, 1, 0, 0), (12, .aload_n 0, 1, 0, 0), (13, .getfield 11, 3, 6, 0), (16, .iload_n 1, 1, 0, 0), (17, .aaload, 1, 0, 0), (18, .astore 4, 2, 0, 0), (20, .aload 4, 2, 0, 0), (22, .getfield 74, 3, 2, 1), (25, .ifCond .ne 9, 3, 34, 0), (28, .aload_n 0, 1, 0, 0), (29, .iconst 1, 1, 1, 0), (30, .invokevirtual 63, 3, 95, 1)],
  [(33, .ireturn, 1, 0, 0), (34, .iload_n 2, 1, 0, 0), (35, .aload 4, 2, 0, 0), (37, .getfield 78, 3, 2, 3), (40, .invokestatic 58, 3, 94, 2), (43, .ifCond .ne 9, 3, 52, 0), (46, .aload_n 0, 1, 0, 0), (47, .iconst 2, 1, 2, 0), (48, .invokevirtual 63, 3, 95, 1), (51, .ireturn, 1, 0, 0), (52, .aload 4, 2, 0, 0), (54, .getfield 82, 3, 2, 0), (57, .iload_n 2, 1, 0, 0), (58, .aload 4, 2, 0, 0), (60, .iload_n 3, 1, 0, 0), (61, .invokevirtual 86, 3, 29, 1)],
  [(64, .iastore, 1, 0, 0), (65, .aload_n 0, 1, 0, 0), (66, .aload 4, 2, 0, 0), (68, .getfield 82, 3, 2, 0), (71, .iload_n 2, 1, 0, 0), (72, .iaload, 1, 0, 0), (73, .invokevirtual 71, 3, 96, 1), (76, .ireturn, 1, 0, 0)]]
def tm_k63 : List (List tm_E) := [[(0, .iload_n 1, 1, 0, 0), (1, .bipush 8, 2, 8, 0), (3, .invokestatic 58, 3, 94, 2), (6, .ifCond .eq 12, 3, 18, 0), (9, .iload_n 3, 1, 0, 0), (10, .bipush 8, 2, 8, 0), (12, .invokestatic 58, 3, 94, 2), (15, .ifCond .ne 6, 3, 21, 0), (18, .ldc 62, 2, 1000001, 1), (20, .ireturn, 1, 0, 0), (21, .aload_n 0, 1, 0, 0), (22, .getfield 11, 3, 6, 0), (25, .iload_n 1, 1, 0, 0), (26, .aaload, 1, 0, 0), (27, .astore 6, 2, 0, 0), (29, .aload_n 0, 1, 0, 0), (30, .getfield 11, 3, 6, 0)],
  [(33, .iload_n 3, 1, 0, 0), (34, .aaload, 1, 0, 0), (35, .astore 7, 2, 0, 0), (37, .aload 6, 2, 0, 0), (39, .getfield 74, 3, 2, 1), (42, .ifCond .eq 11, 3, 53, 0), (45, .aload 7, 2, 0, 0), (47, .getfield 74, 3, 2, 1), (50, .ifCond .ne 9, 3, 59, 0), (53, .aload_n 0, 1, 0, 0), (54, .iconst 1, 1, 1, 0), (55, .invokevirtual 63, 3, 95, 1), (58, .ireturn, 1, 0, 0), (59, .aload 6, 2, 0, 0), (61, .getfield 89, 3, 2, 2)],
  [(64, .aload 7, 2, 0, 0), (66, .getfield 89, 3, 2, 2), (69, .if_icmp .eq 9, 3, 78, 0), (72, .aload_n 0, 1, 0, 0), (73, .iconst 5, 1, 5, 0), (74, .invokevirtual 63, 3, 95, 1), (77, .ireturn, 1, 0, 0), (78, .aload 6, 2, 0, 0), (80, .iload_n 2, 1, 0, 0), (81, .iload 5, 2, 0, 0), (83, .invokevirtual 92, 3, 30, 2), (86, .ifCond .eq 15, 3, 101, 0), (89, .aload 7, 2, 0, 0), (91, .iload 4, 2, 0, 0), (93, .iload 5, 2, 0, 0), (95, .invokevirtual 92, 3, 30, 2)],
  [(98, .ifCond .ne 9, 3, 107, 0), (101, .aload_n 0, 1, 0, 0), (102, .iconst 2, 1, 2, 0), (103, .invokevirtual 63, 3, 95, 1), (106, .ireturn, 1, 0, 0), (107, .aload 6, 2, 0, 0), (109, .getfield 82, 3, 2, 0), (112, .iload_n 2, 1, 0, 0), (113, .aload 7, 2, 0, 0), (115, .getfield 82, 3, 2, 0), (118, .iload 4, 2, 0, 0), (120, .iload 5, 2, 0, 0), (122, .invokestatic 95, 3, 999, 5), (125, .aload_n 0, 1, 0, 0), (126, .iload 5, 2, 0, 0)],
  [(128, .invokevirtual 71, 3, 96, 1), (131, .ireturn, 1, 0, 0)]]
def tm_k64 : List (List tm_E) := [[(0, .iload_n 1, 1, 0, 0), (1, .bipush 8, 2, 8, 0), (3, .invokestatic 58, 3, 94, 2), (6, .ifCond .ne 6, 3, 12, 0), (9, .ldc 62, 2, 1000001, 1), (11, .ireturn, 1, 0, 0), (12, .aload_n 0, 1, 0, 0), (13, .getfield 11, 3, 6, 0), (16, .iload_n 1, 1, 0, 0), (17, .aaload, 1, 0, 0), (18, .astore_n 2, 1, 0, 0), (19, .aload_n 2, 1, 0, 0), (20, .getfield 74, 3, 2, 1), (23, .ifCond .ne 9, 3, 32, 0), (26, .aload_n 0, 1, 0, 0), (27, .iconst 1, 1, 1, 0), (28, .invokevirtual 63, 3, 95, 1), (31, .ireturn, 1, 0, 0)],
  [(32, .aload_n 2, 1, 0, 0), (33, .iconst 0, 1, 0, 0), (34, .putfield 74, 3, 2, 1), (37, .aload_n 0, 1, 0, 0), (38, .aload_n 2, 1, 0, 0), (39, .getfield 78, 3, 2, 3), (42, .invokevirtual 71, 3, 96, 1), (45, .ireturn, 1, 0, 0)]]
def tm_k65 : List (List tm_E) := [[(0, .iload_n 1, 1, 0, 0), (1, .ifCond .lt 10, 3, 11, 0), (4, .iload_n 1, 1, 0, 0), (5, .sipush 255, 3, 255, 0), (8, .if_icmp .le 6, 3, 14, 0), (11, .ldc 62, 2, 1000001, 1), (13, .ireturn, 1, 0, 0), (14, .aload_n 0, 1, 0, 0), (15, .getfield 18, 3, 6, 1), (18, .iload_n 1, 1, 0, 0), (19, .invokevirtual 101, 3, 44, 1), (22, .ifCond .eq 13, 3, 35, 0), (25, .aload_n 0, 1, 0, 0), (26, .getfield 18, 3, 6, 1), (29, .getfield 105, 3, 4, 1)],
  [(32, .goto 5, 3, 37, 0), (35, .ldc 106, 2, 1000003, 1), (37, .ireturn, 1, 0, 0)]]
def tm_k66 : List (List tm_E) := [[(0, .aload_n 0, 1, 0, 0), (1, .getfield 18, 3, 6, 1), (4, .aload_n 0, 1, 0, 0), (5, .getfield 29, 3, 6, 3), (8, .invokevirtual 107, 3, 45, 1), (11, .istore_n 1, 1, 0, 0), (12, .aload_n 0, 1, 0, 0), (13, .getfield 18, 3, 6, 1), (16, .iconst 0, 1, 0, 0), (17, .putfield 105, 3, 4, 1), (20, .iload_n 1, 1, 0, 0), (21, .ifCond .ne 14, 3, 35, 0), (24, .ldc 111, 2, 1000100, 1), (26, .aload_n 0, 1, 0, 0), (27, .getfield 18, 3, 6, 1), (30, .getfield 112, 3, 4, 3)],
  [(33, .isub, 1, 0, 0), (34, .ireturn, 1, 0, 0), (35, .aload_n 0, 1, 0, 0), (36, .getfield 25, 3, 6, 2), (39, .aload_n 0, 1, 0, 0), (40, .getfield 29, 3, 6, 3), (43, .invokevirtual 115, 3, 7, 1), (46, .aload_n 0, 1, 0, 0), (47, .getfield 39, 3, 6, 5), (50, .invokevirtual 119, 3, 0, 0), (53, .aload_n 0, 1, 0, 0), (54, .getfield 25, 3, 6, 2), (57, .getfield 122, 3, 1, 0), (60, .ireturn, 1, 0, 0)]]
def tm_k67 : List (List tm_E) := [[(0, .aload_n 0, 1, 0, 0), (1, .getfield 18, 3, 6, 1), (4, .getfield 125, 3, 4, 2), (7, .ireturn, 1, 0, 0)]]
def tm_k68 : List (List tm_E) := [[(0, .aload_n 0, 1, 0, 0), (1, .getfield 25, 3, 6, 2), (4, .invokevirtual 128, 3, 3, 0), (7, .ifCond .ne 6, 3, 13, 0), (10, .ldc 132, 2, 1000002, 1), (12, .ireturn, 1, 0, 0), (13, .iload_n 1, 1, 0, 0), (14, .iconst 1, 1, 1, 0), (15, .if_icmp .lt 9, 3, 24, 0), (18, .iload_n 1, 1, 0, 0), (19, .bipush 20, 2, 20, 0), (21, .if_icmp .le 6, 3, 27, 0), (24, .ldc 62, 2, 1000001, 1), (26, .ireturn, 1, 0, 0), (27, .aload_n 0, 1, 0, 0), (28, .getfield 25, 3, 6, 2), (31, .getfield 133, 3, 1, 14)],
  [(34, .iload_n 1, 1, 0, 0), (35, .iadd, 1, 0, 0), (36, .sipush 999, 3, 999, 0), (39, .if_icmp .le 6, 3, 45, 0), (42, .ldc 106, 2, 1000003, 1), (44, .ireturn, 1, 0, 0), (45, .iconst 0, 1, 0, 0), (46, .istore_n 2, 1, 0, 0), (47, .iload_n 2, 1, 0, 0), (48, .iload_n 1, 1, 0, 0), (49, .if_icmp .ge 27, 3, 76, 0), (52, .aload_n 0, 1, 0, 0), (53, .getfield 39, 3, 6, 5), (56, .aload_n 0, 1, 0, 0), (57, .getfield 25, 3, 6, 2), (60, .invokevirtual 136, 3, 1, 1), (63, .aload_n 0, 1, 0, 0)],
  [(64, .getfield 25, 3, 6, 2), (67, .invokevirtual 139, 3, 27, 0), (70, .iinc 2 1, 3, 1, 0), (73, .goto (-26), 3, 47, 0), (76, .aload_n 0, 1, 0, 0), (77, .getfield 25, 3, 6, 2), (80, .getfield 142, 3, 1, 12), (83, .ireturn, 1, 0, 0)]]
def tm_k69 : List (List tm_E) := [[(0, .iload_n 1, 1, 0, 0), (1, .aload_n 0, 1, 0, 0), (2, .getfield 25, 3, 6, 2), (5, .getfield 145, 3, 1, 3), (8, .invokestatic 58, 3, 94, 2), (11, .ifCond .ne 6, 3, 17, 0), (14, .ldc 62, 2, 1000001, 1), (16, .ireturn, 1, 0, 0), (17, .aload_n 0, 1, 0, 0), (18, .getfield 39, 3, 6, 5), (21, .aload_n 0, 1, 0, 0), (22, .getfield 25, 3, 6, 2), (25, .invokevirtual 136, 3, 1, 1), (28, .aload_n 0, 1, 0, 0), (29, .getfield 25, 3, 6, 2)],
  [(32, .dup, 1, 0, 0), (33, .getfield 142, 3, 1, 12), (36, .iconst 1, 1, 1, 0), (37, .iload_n 1, 1, 0, 0), (38, .ishl, 1, 0, 0), (39, .ixor, 1, 0, 0), (40, .putfield 142, 3, 1, 12), (43, .aload_n 0, 1, 0, 0), (44, .getfield 25, 3, 6, 2), (47, .getfield 142, 3, 1, 12), (50, .iload_n 1, 1, 0, 0), (51, .ishr, 1, 0, 0), (52, .iconst 1, 1, 1, 0), (53, .iand, 1, 0, 0), (54, .ireturn, 1, 0, 0)]]
def tm_k70 : List (List tm_E) := [[(0, .iload_n 1, 1, 0, 0), (1, .aload_n 0, 1, 0, 0), (2, .getfield 25, 3, 6, 2), (5, .getfield 148, 3, 1, 4), (8, .invokestatic 58, 3, 94, 2), (11, .ifCond .eq 14, 3, 25, 0), (14, .aload_n 0, 1, 0, 0), (15, .getfield 25, 3, 6, 2), (18, .iload_n 2, 1, 0, 0), (19, .invokevirtual 151, 3, 5, 1), (22, .ifCond .ne 6, 3, 28, 0), (25, .ldc 62, 2, 1000001, 1), (27, .ireturn, 1, 0, 0), (28, .aload_n 0, 1, 0, 0), (29, .getfield 39, 3, 6, 5)],
  [(32, .aload_n 0, 1, 0, 0), (33, .getfield 25, 3, 6, 2), (36, .invokevirtual 136, 3, 1, 1), (39, .aload_n 0, 1, 0, 0), (40, .getfield 25, 3, 6, 2), (43, .getfield 154, 3, 1, 11), (46, .iload_n 1, 1, 0, 0), (47, .iaload, 1, 0, 0), (48, .istore_n 3, 1, 0, 0), (49, .aload_n 0, 1, 0, 0), (50, .getfield 25, 3, 6, 2), (53, .getfield 154, 3, 1, 11), (56, .iload_n 1, 1, 0, 0), (57, .iload_n 2, 1, 0, 0), (58, .iastore, 1, 0, 0), (59, .iload_n 3, 1, 0, 0), (60, .ireturn, 1, 0, 0)]]
def tm_k71 : List (List tm_E) := [[(0, .aload_n 0, 1, 0, 0), (1, .getfield 39, 3, 6, 5), (4, .aload_n 0, 1, 0, 0), (5, .getfield 25, 3, 6, 2), (8, .invokevirtual 157, 3, 2, 1), (11, .ifCond .eq 13, 3, 24, 0), (14, .aload_n 0, 1, 0, 0), (15, .getfield 39, 3, 6, 5), (18, .getfield 160, 3, 0, 0), (21, .goto 5, 3, 26, 0), (24, .ldc 132, 2, 1000002, 1), (26, .ireturn, 1, 0, 0)]]
def tm_k72 : List (List tm_E) := [[(0, .iload_n 1, 1, 0, 0), (1, .aload_n 0, 1, 0, 0), (2, .getfield 25, 3, 6, 2), (5, .getfield 148, 3, 1, 4), (8, .invokestatic 58, 3, 94, 2), (11, .ifCond .ne 6, 3, 17, 0), (14, .ldc 62, 2, 1000001, 1), (16, .ireturn, 1, 0, 0), (17, .iload_n 2, 1, 0, 0), (18, .tableswitch 86 0 4 #[34, 44, 54, 64, 74], 34, 0, 0)],
  [(52, .aload_n 0, 1, 0, 0), (53, .getfield 25, 3, 6, 2), (56, .getfield 163, 3, 1, 8), (59, .iload_n 1, 1, 0, 0), (60, .iaload, 1, 0, 0), (61, .ireturn, 1, 0, 0), (62, .aload_n 0, 1, 0, 0), (63, .getfield 25, 3, 6, 2)],
  [(66, .getfield 166, 3, 1, 9), (69, .iload_n 1, 1, 0, 0), (70, .iaload, 1, 0, 0), (71, .ireturn, 1, 0, 0), (72, .aload_n 0, 1, 0, 0), (73, .getfield 25, 3, 6, 2), (76, .getfield 154, 3, 1, 11), (79, .iload_n 1, 1, 0, 0), (80, .iaload, 1, 0, 0), (81, .ireturn, 1, 0, 0), (82, .aload_n 0, 1, 0, 0), (83, .getfield 25, 3, 6, 2), (86, .getfield 169, 3, 1, 10), (89, .iload_n 1, 1, 0, 0), (90, .iaload, 1, 0, 0), (91, .ireturn, 1, 0, 0), (92, .aload_n 0, 1, 0, 0), (93, .getfield 25, 3, 6, 2)],
  [(96, .getfield 172, 3, 1, 13), (99, .iload_n 1, 1, 0, 0), (100, .ishr, 1, 0, 0), (101, .iconst 1, 1, 1, 0), (102, .iand, 1, 0, 0), (103, .ireturn, 1, 0, 0), (104, .ldc 62, 2, 1000001, 1), (106, .ireturn, 1, 0, 0)]]
def tm_k73 : List (List tm_E) := [[(0, .iload_n 1, 1, 0, 0), (1, .aload_n 0, 1, 0, 0), (2, .getfield 25, 3, 6, 2), (5, .getfield 145, 3, 1, 3), (8, .invokestatic 58, 3, 94, 2), (11, .ifCond .ne 6, 3, 17, 0), (14, .ldc 62, 2, 1000001, 1), (16, .ireturn, 1, 0, 0), (17, .iload_n 2, 1, 0, 0), (18, .tableswitch 58 0 2 #[26, 36, 46], 26, 0, 0)],
  [(44, .aload_n 0, 1, 0, 0), (45, .getfield 25, 3, 6, 2), (48, .getfield 175, 3, 1, 5), (51, .iload_n 1, 1, 0, 0), (52, .iaload, 1, 0, 0), (53, .ireturn, 1, 0, 0), (54, .aload_n 0, 1, 0, 0), (55, .getfield 25, 3, 6, 2), (58, .getfield 178, 3, 1, 6), (61, .iload_n 1, 1, 0, 0), (62, .iaload, 1, 0, 0), (63, .ireturn, 1, 0, 0)],
  [(64, .aload_n 0, 1, 0, 0), (65, .getfield 25, 3, 6, 2), (68, .getfield 142, 3, 1, 12), (71, .iload_n 1, 1, 0, 0), (72, .ishr, 1, 0, 0), (73, .iconst 1, 1, 1, 0), (74, .iand, 1, 0, 0), (75, .ireturn, 1, 0, 0), (76, .ldc 62, 2, 1000001, 1), (78, .ireturn, 1, 0, 0)]]
def tm_k74 : List (List tm_E) := [[(0, .iload_n 1, 1, 0, 0), (1, .aload_n 0, 1, 0, 0), (2, .getfield 25, 3, 6, 2), (5, .getfield 122, 3, 1, 0), (8, .invokestatic 58, 3, 94, 2), (11, .ifCond .eq 14, 3, 25, 0), (14, .aload_n 0, 1, 0, 0), (15, .getfield 25, 3, 6, 2), (18, .iload_n 1, 1, 0, 0), (19, .invokevirtual 181, 3, 14, 1), (22, .goto 5, 3, 27, 0), (25, .ldc 62, 2, 1000001, 1), (27, .ireturn, 1, 0, 0)]]
def tm_k75 : List (List tm_E) := [[(0, .iload_n 1, 1, 0, 0), (1, .aload_n 0, 1, 0, 0), (2, .getfield 25, 3, 6, 2), (5, .getfield 148, 3, 1, 4), (8, .invokestatic 58, 3, 94, 2), (11, .ifCond .eq 17, 3, 28, 0), (14, .iload_n 2, 1, 0, 0), (15, .aload_n 0, 1, 0, 0), (16, .getfield 25, 3, 6, 2), (19, .getfield 145, 3, 1, 3), (22, .invokestatic 58, 3, 94, 2), (25, .ifCond .ne 6, 3, 31, 0), (28, .ldc 62, 2, 1000001, 1), (30, .ireturn, 1, 0, 0), (31, .aload_n 0, 1, 0, 0)],
  [(32, .getfield 25, 3, 6, 2), (35, .invokevirtual 184, 3, 19, 0), (38, .aload_n 0, 1, 0, 0), (39, .getfield 25, 3, 6, 2), (42, .iload_n 1, 1, 0, 0), (43, .iload_n 2, 1, 0, 0), (44, .invokevirtual 187, 3, 21, 2), (47, .istore_n 3, 1, 0, 0), (48, .iload_n 3, 1, 0, 0), (49, .bipush 100, 2, 100, 0), (51, .if_icmp .ne 8, 3, 59, 0), (54, .ldc 191, 2, 1000000, 1), (56, .goto 4, 3, 60, 0), (59, .iload_n 3, 1, 0, 0), (60, .ireturn, 1, 0, 0)]]
def tm_k76 : List (List tm_E) := [[(0, .iload_n 1, 1, 0, 0), (1, .aload_n 0, 1, 0, 0), (2, .getfield 25, 3, 6, 2), (5, .getfield 145, 3, 1, 3), (8, .invokestatic 58, 3, 94, 2), (11, .ifCond .eq 12, 3, 23, 0), (14, .iload_n 2, 1, 0, 0), (15, .ifCond .lt 8, 3, 23, 0), (18, .iload_n 2, 1, 0, 0), (19, .iconst 1, 1, 1, 0), (20, .if_icmp .le 6, 3, 26, 0), (23, .ldc 62, 2, 1000001, 1), (25, .ireturn, 1, 0, 0), (26, .aload_n 0, 1, 0, 0), (27, .getfield 25, 3, 6, 2), (30, .invokevirtual 184, 3, 19, 0)],
  [(33, .aload_n 0, 1, 0, 0), (34, .getfield 25, 3, 6, 2), (37, .iload_n 1, 1, 0, 0), (38, .iload_n 2, 1, 0, 0), (39, .ifCond .ne 7, 3, 46, 0), (42, .iconst 1, 1, 1, 0), (43, .goto 4, 3, 47, 0), (46, .iconst 0, 1, 0, 0), (47, .invokevirtual 192, 3, 24, 2), (50, .ireturn, 1, 0, 0)]]
def tm_k77 : List (List tm_E) := [[(0, .aload_n 0, 1, 0, 0), (1, .getfield 25, 3, 6, 2), (4, .invokevirtual 128, 3, 3, 0), (7, .ifCond .ne 6, 3, 13, 0), (10, .ldc 132, 2, 1000002, 1), (12, .ireturn, 1, 0, 0), (13, .iload_n 1, 1, 0, 0), (14, .ifCond .lt 18, 3, 32, 0), (17, .iload_n 1, 1, 0, 0), (18, .bipush 60, 2, 60, 0), (20, .if_icmp .gt 12, 3, 32, 0), (23, .iload_n 2, 1, 0, 0), (24, .ifCond .lt 8, 3, 32, 0), (27, .iload_n 2, 1, 0, 0), (28, .iconst 2, 1, 2, 0), (29, .if_icmp .le 6, 3, 35, 0)],
  [(32, .ldc 62, 2, 1000001, 1), (34, .ireturn, 1, 0, 0), (35, .aload_n 0, 1, 0, 0), (36, .getfield 46, 3, 6, 6), (39, .aload_n 0, 1, 0, 0), (40, .getfield 25, 3, 6, 2), (43, .iload_n 1, 1, 0, 0), (44, .invokevirtual 196, 3, 31, 2), (47, .astore_n 3, 1, 0, 0), (48, .iload_n 2, 1, 0, 0), (49, .lookupswitch 37 #[(0, 27), (1, 32)], 27, 0, 0)],
  [(76, .aload_n 3, 1, 0, 0), (77, .getfield 142, 3, 1, 12), (80, .ireturn, 1, 0, 0), (81, .aload_n 3, 1, 0, 0), (82, .invokevirtual 200, 3, 18, 0), (85, .ireturn, 1, 0, 0), (86, .aload_n 3, 1, 0, 0), (87, .invokevirtual 204, 3, 16, 0), (90, .ireturn, 1, 0, 0)]]
def tm_k78 : List (List tm_E) := [[(0, .aload_n 0, 1, 0, 0), (1, .getfield 25, 3, 6, 2), (4, .invokevirtual 128, 3, 3, 0), (7, .ifCond .ne 6, 3, 13, 0), (10, .ldc 132, 2, 1000002, 1), (12, .ireturn, 1, 0, 0), (13, .iload_n 1, 1, 0, 0), (14, .ifCond .lt 8, 3, 22, 0), (17, .iload_n 1, 1, 0, 0), (18, .iconst 1, 1, 1, 0), (19, .if_icmp .le 6, 3, 25, 0), (22, .ldc 62, 2, 1000001, 1), (24, .ireturn, 1, 0, 0), (25, .aload_n 0, 1, 0, 0), (26, .getfield 46, 3, 6, 6), (29, .aload_n 0, 1, 0, 0), (30, .getfield 25, 3, 6, 2)],
  [(33, .invokevirtual 207, 3, 32, 1), (36, .istore_n 2, 1, 0, 0), (37, .iload_n 1, 1, 0, 0), (38, .iconst 1, 1, 1, 0), (39, .if_icmp .ne 7, 3, 46, 0), (42, .iload_n 2, 1, 0, 0), (43, .goto 15, 3, 58, 0), (46, .aload_n 0, 1, 0, 0), (47, .getfield 46, 3, 6, 6), (50, .aload_n 0, 1, 0, 0), (51, .getfield 25, 3, 6, 2), (54, .iload_n 2, 1, 0, 0), (55, .invokevirtual 211, 3, 33, 2), (58, .ireturn, 1, 0, 0)]]
def tm_k79 : List (List tm_E) := [[(0, .iload_n 1, 1, 0, 0), (1, .aload_n 0, 1, 0, 0), (2, .getfield 25, 3, 6, 2), (5, .getfield 145, 3, 1, 3), (8, .invokestatic 58, 3, 94, 2), (11, .ifCond .eq 21, 3, 32, 0), (14, .iload_n 2, 1, 0, 0), (15, .ifCond .lt 17, 3, 32, 0), (18, .iload_n 2, 1, 0, 0), (19, .iconst 1, 1, 1, 0), (20, .if_icmp .gt 12, 3, 32, 0), (23, .iload_n 3, 1, 0, 0), (24, .ifCond .lt 8, 3, 32, 0), (27, .iload_n 3, 1, 0, 0), (28, .iconst 1, 1, 1, 0), (29, .if_icmp .le 6, 3, 35, 0)],
  [(32, .ldc 62, 2, 1000001, 1), (34, .ireturn, 1, 0, 0), (35, .aload_n 0, 1, 0, 0), (36, .getfield 46, 3, 6, 6), (39, .aload_n 0, 1, 0, 0), (40, .getfield 25, 3, 6, 2), (43, .iload_n 1, 1, 0, 0), (44, .iload_n 2, 1, 0, 0), (45, .iconst 1, 1, 1, 0), (46, .invokevirtual 215, 3, 34, 4), (49, .iload_n 3, 1, 0, 0), (50, .invokestatic 219, 3, 98, 2), (53, .ireturn, 1, 0, 0)]]
def tm_k80 : List (List tm_E) := [[(0, .iload_n 1, 1, 0, 0), (1, .aload_n 0, 1, 0, 0), (2, .getfield 25, 3, 6, 2), (5, .getfield 145, 3, 1, 3), (8, .invokestatic 58, 3, 94, 2), (11, .ifCond .eq 23, 3, 34, 0), (14, .iload_n 2, 1, 0, 0), (15, .iconst 1, 1, 1, 0), (16, .if_icmp .lt 18, 3, 34, 0), (19, .iload_n 2, 1, 0, 0), (20, .bipush 10, 2, 10, 0), (22, .if_icmp .gt 12, 3, 34, 0), (25, .iload_n 3, 1, 0, 0), (26, .ifCond .lt 8, 3, 34, 0), (29, .iload_n 3, 1, 0, 0), (30, .iconst 1, 1, 1, 0), (31, .if_icmp .le 6, 3, 37, 0)],
  [(34, .ldc 62, 2, 1000001, 1), (36, .ireturn, 1, 0, 0), (37, .aload_n 0, 1, 0, 0), (38, .getfield 46, 3, 6, 6), (41, .aload_n 0, 1, 0, 0), (42, .getfield 25, 3, 6, 2), (45, .iload_n 1, 1, 0, 0), (46, .iconst 1, 1, 1, 0), (47, .iload_n 2, 1, 0, 0), (48, .invokevirtual 215, 3, 34, 4), (51, .iload_n 3, 1, 0, 0), (52, .invokestatic 219, 3, 98, 2), (55, .ireturn, 1, 0, 0)]]
def tm_k81 : List (List tm_E) := [[(0, .iload_n 1, 1, 0, 0), (1, .aload_n 0, 1, 0, 0), (2, .getfield 25, 3, 6, 2), (5, .getfield 148, 3, 1, 4), (8, .invokestatic 58, 3, 94, 2), (11, .ifCond .eq 22, 3, 33, 0), (14, .iload_n 2, 1, 0, 0), (15, .aload_n 0, 1, 0, 0), (16, .getfield 25, 3, 6, 2), (19, .getfield 148, 3, 1, 4), (22, .invokestatic 58, 3, 94, 2), (25, .ifCond .eq 8, 3, 33, 0), (28, .iload_n 1, 1, 0, 0), (29, .iload_n 2, 1, 0, 0), (30, .if_icmp .ne 6, 3, 36, 0)],
  [(33, .ldc 62, 2, 1000001, 1), (35, .ireturn, 1, 0, 0), (36, .aload_n 0, 1, 0, 0), (37, .getfield 46, 3, 6, 6), (40, .aload_n 0, 1, 0, 0), (41, .getfield 25, 3, 6, 2), (44, .iload_n 1, 1, 0, 0), (45, .iload_n 2, 1, 0, 0), (46, .invokevirtual 222, 3, 36, 3), (49, .ireturn, 1, 0, 0)]]
def tm_k82 : List (List tm_E) := [[(0, .iload_n 1, 1, 0, 0), (1, .aload_n 0, 1, 0, 0), (2, .getfield 25, 3, 6, 2), (5, .getfield 148, 3, 1, 4), (8, .invokestatic 58, 3, 94, 2), (11, .ifCond .eq 18, 3, 29, 0), (14, .aload_n 0, 1, 0, 0), (15, .getfield 46, 3, 6, 6), (18, .aload_n 0, 1, 0, 0), (19, .getfield 25, 3, 6, 2), (22, .iload_n 1, 1, 0, 0), (23, .invokevirtual 226, 3, 39, 2), (26, .goto 5, 3, 31, 0), (29, .ldc 62, 2, 1000001, 1), (31, .ireturn, 1, 0, 0)]]
def tm_k83 : List (List tm_E) := [[(0, .aload_n 0, 1, 0, 0), (1, .getfield 25, 3, 6, 2), (4, .invokevirtual 128, 3, 3, 0), (7, .ifCond .ne 6, 3, 13, 0), (10, .ldc 132, 2, 1000002, 1), (12, .ireturn, 1, 0, 0), (13, .iload_n 1, 1, 0, 0), (14, .iconst 1, 1, 1, 0), (15, .if_icmp .lt 18, 3, 33, 0), (18, .iload_n 1, 1, 0, 0), (19, .bipush 10, 2, 10, 0), (21, .if_icmp .gt 12, 3, 33, 0), (24, .iload_n 2, 1, 0, 0), (25, .ifCond .lt 8, 3, 33, 0), (28, .iload_n 2, 1, 0, 0), (29, .iconst 2, 1, 2, 0), (30, .if_icmp .le 6, 3, 36, 0)],
  [(33, .ldc 62, 2, 1000001, 1), (35, .ireturn, 1, 0, 0), (36, .aload_n 0, 1, 0, 0), (37, .getfield 46, 3, 6, 6), (40, .aload_n 0, 1, 0, 0), (41, .getfield 25, 3, 6, 2), (44, .iload_n 1, 1, 0, 0), (45, .invokevirtual 229, 3, 40, 2), (48, .iload_n 2, 1, 0, 0), (49, .lookupswitch 43 #[(0, 27), (1, 35)], 27, 0, 0)],
  [(76, .aload_n 0, 1, 0, 0), (77, .getfield 46, 3, 6, 6), (80, .getfield 233, 3, 3, 0), (83, .ireturn, 1, 0, 0), (84, .aload_n 0, 1, 0, 0), (85, .getfield 46, 3, 6, 6), (88, .getfield 236, 3, 3, 1), (91, .ireturn, 1, 0, 0), (92, .aload_n 0, 1, 0, 0), (93, .getfield 46, 3, 6, 6)],
  [(96, .getfield 239, 3, 3, 2), (99, .ireturn, 1, 0, 0)]]
def tm_k84 : List (List tm_E) := [[(0, .aload_n 0, 1, 0, 0), (1, .getfield 25, 3, 6, 2), (4, .invokevirtual 128, 3, 3, 0), (7, .ifCond .ne 6, 3, 13, 0), (10, .ldc 132, 2, 1000002, 1), (12, .ireturn, 1, 0, 0), (13, .iload_n 1, 1, 0, 0), (14, .bipush 8, 2, 8, 0), (16, .invokestatic 58, 3, 94, 2), (19, .ifCond .eq 24, 3, 43, 0), (22, .iload_n 3, 1, 0, 0), (23, .ifCond .lt 20, 3, 43, 0), (26, .iload_n 3, 1, 0, 0), (27, .bipush 10, 2, 10, 0), (29, .if_icmp .gt 14, 3, 43, 0)],
  [(32, .iload 4, 2, 0, 0), (34, .ifCond .lt 9, 3, 43, 0), (37, .iload 4, 2, 0, 0), (39, .iconst 2, 1, 2, 0), (40, .if_icmp .le 6, 3, 46, 0), (43, .ldc 62, 2, 1000001, 1), (45, .ireturn, 1, 0, 0), (46, .aload_n 0, 1, 0, 0), (47, .getfield 11, 3, 6, 0), (50, .iload_n 1, 1, 0, 0), (51, .aaload, 1, 0, 0), (52, .astore 5, 2, 0, 0), (54, .aload 5, 2, 0, 0), (56, .getfield 74, 3, 2, 1), (59, .ifCond .ne 9, 3, 68, 0), (62, .aload_n 0, 1, 0, 0), (63, .iconst 1, 1, 1, 0)],
  [(64, .invokevirtual 63, 3, 95, 1), (67, .ireturn, 1, 0, 0), (68, .aload 5, 2, 0, 0), (70, .iload_n 2, 1, 0, 0), (71, .iconst 2, 1, 2, 0), (72, .iload_n 3, 1, 0, 0), (73, .imul, 1, 0, 0), (74, .invokevirtual 92, 3, 30, 2), (77, .ifCond .ne 9, 3, 86, 0), (80, .aload_n 0, 1, 0, 0), (81, .iconst 2, 1, 2, 0), (82, .invokevirtual 63, 3, 95, 1), (85, .ireturn, 1, 0, 0), (86, .aload_n 0, 1, 0, 0), (87, .aload 5, 2, 0, 0), (89, .iload_n 2, 1, 0, 0), (90, .iload_n 3, 1, 0, 0), (91, .invokevirtual 242, 3, 99, 3), (94, .ifCond .ne 6, 3, 100, 0)],
  [(97, .ldc 62, 2, 1000001, 1), (99, .ireturn, 1, 0, 0), (100, .aload_n 0, 1, 0, 0), (101, .getfield 46, 3, 6, 6), (104, .aload_n 0, 1, 0, 0), (105, .getfield 25, 3, 6, 2), (108, .aload 5, 2, 0, 0), (110, .iload_n 2, 1, 0, 0), (111, .iload_n 3, 1, 0, 0), (112, .iconst 1, 1, 1, 0), (113, .invokestatic 246, 3, 100, 4), (116, .aload 5, 2, 0, 0), (118, .iload_n 2, 1, 0, 0), (119, .iload_n 3, 1, 0, 0), (120, .iconst 0, 1, 0, 0), (121, .invokestatic 246, 3, 100, 4), (124, .invokevirtual 250, 3, 42, 3), (127, .aload_n 0, 1, 0, 0)],
  [(128, .aload_n 0, 1, 0, 0), (129, .iload 4, 2, 0, 0), (131, .invokevirtual 254, 3, 101, 1), (134, .invokevirtual 71, 3, 96, 1), (137, .ireturn, 1, 0, 0)]]
def tm_k85 : List (List tm_E) := [[(0, .aload_n 0, 1, 0, 0), (1, .getfield 25, 3, 6, 2), (4, .invokevirtual 128, 3, 3, 0), (7, .ifCond .ne 6, 3, 13, 0), (10, .ldc 132, 2, 1000002, 1), (12, .ireturn, 1, 0, 0), (13, .aload_n 0, 1, 0, 0), (14, .getfield 25, 3, 6, 2), (17, .iload_n 1, 1, 0, 0), (18, .invokevirtual 151, 3, 5, 1), (21, .ifCond .eq 18, 3, 39, 0), (24, .aload_n 0, 1, 0, 0), (25, .getfield 46, 3, 6, 6), (28, .aload_n 0, 1, 0, 0), (29, .getfield 25, 3, 6, 2)],
  [(32, .iload_n 1, 1, 0, 0), (33, .invokevirtual 257, 3, 43, 2), (36, .goto 5, 3, 41, 0), (39, .ldc 62, 2, 1000001, 1), (41, .ireturn, 1, 0, 0)]]
def tm_k86 : List (List tm_E) := [[(0, .iload_n 1, 1, 0, 0), (1, .iconst 2, 1, 2, 0), (2, .invokestatic 58, 3, 94, 2), (5, .ifCond .ne 6, 3, 11, 0), (8, .ldc 62, 2, 1000001, 1), (10, .ireturn, 1, 0, 0), (11, .aload_n 0, 1, 0, 0), (12, .getfield 25, 3, 6, 2), (15, .invokevirtual 128, 3, 3, 0), (18, .ifCond .ne 6, 3, 24, 0), (21, .ldc 132, 2, 1000002, 1), (23, .ireturn, 1, 0, 0), (24, .aload_n 0, 1, 0, 0), (25, .getfield 32, 3, 6, 4), (28, .iload_n 1, 1, 0, 0), (29, .aaload, 1, 0, 0), (30, .aload_n 0, 1, 0, 0), (31, .getfield 25, 3, 6, 2)],
  [(34, .invokevirtual 115, 3, 7, 1), (37, .iconst 1, 1, 1, 0), (38, .ireturn, 1, 0, 0)]]
def tm_k87 : List (List tm_E) := [[(0, .iload_n 1, 1, 0, 0), (1, .iconst 2, 1, 2, 0), (2, .invokestatic 58, 3, 94, 2), (5, .ifCond .ne 6, 3, 11, 0), (8, .ldc 62, 2, 1000001, 1), (10, .ireturn, 1, 0, 0), (11, .aload_n 0, 1, 0, 0), (12, .getfield 32, 3, 6, 4), (15, .iload_n 1, 1, 0, 0), (16, .aaload, 1, 0, 0), (17, .invokevirtual 128, 3, 3, 0), (20, .ifCond .ne 6, 3, 26, 0), (23, .ldc 132, 2, 1000002, 1), (25, .ireturn, 1, 0, 0), (26, .aload_n 0, 1, 0, 0), (27, .getfield 25, 3, 6, 2), (30, .aload_n 0, 1, 0, 0), (31, .getfield 32, 3, 6, 4)],
  [(34, .iload_n 1, 1, 0, 0), (35, .aaload, 1, 0, 0), (36, .invokevirtual 115, 3, 7, 1), (39, .aload_n 0, 1, 0, 0), (40, .getfield 39, 3, 6, 5), (43, .invokevirtual 119, 3, 0, 0), (46, .iconst 1, 1, 1, 0), (47, .ireturn, 1, 0, 0)]]
def tm_k88 : List (List tm_E) := [[(0, .iload_n 1, 1, 0, 0), (1, .aload_n 0, 1, 0, 0), (2, .getfield 25, 3, 6, 2), (5, .getfield 148, 3, 1, 4), (8, .invokestatic 58, 3, 94, 2), (11, .ifCond .eq 15, 3, 26, 0), (14, .aload_n 0, 1, 0, 0), (15, .getfield 25, 3, 6, 2), (18, .getfield 260, 3, 1, 7), (21, .iload_n 1, 1, 0, 0), (22, .iaload, 1, 0, 0), (23, .goto 5, 3, 28, 0), (26, .ldc 62, 2, 1000001, 1), (28, .ireturn, 1, 0, 0)]]
def tm_k89 : List (List tm_E) := [[(0, .iload_n 1, 1, 0, 0), (1, .aload_n 0, 1, 0, 0), (2, .getfield 25, 3, 6, 2), (5, .getfield 148, 3, 1, 4), (8, .invokestatic 58, 3, 94, 2), (11, .ifCond .eq 12, 3, 23, 0), (14, .iload_n 2, 1, 0, 0), (15, .ifCond .lt 8, 3, 23, 0), (18, .iload_n 2, 1, 0, 0), (19, .iconst 5, 1, 5, 0), (20, .if_icmp .le 6, 3, 26, 0), (23, .ldc 62, 2, 1000001, 1), (25, .ireturn, 1, 0, 0), (26, .aload_n 0, 1, 0, 0), (27, .getfield 25, 3, 6, 2), (30, .getfield 260, 3, 1, 7)],
  [(33, .iload_n 1, 1, 0, 0), (34, .iaload, 1, 0, 0), (35, .iload_n 2, 1, 0, 0), (36, .invokestatic 263, 3, 102, 2), (39, .ifCond .eq 11, 3, 50, 0), (42, .aload_n 0, 1, 0, 0), (43, .iload_n 1, 1, 0, 0), (44, .invokevirtual 71, 3, 96, 1), (47, .goto 8, 3, 55, 0), (50, .aload_n 0, 1, 0, 0), (51, .iconst 3, 1, 3, 0), (52, .invokevirtual 63, 3, 95, 1), (55, .ireturn, 1, 0, 0)]]
def tm_k90 : List (List tm_E) := [[(0, .iload_n 1, 1, 0, 0), (1, .aload_n 0, 1, 0, 0), (2, .getfield 25, 3, 6, 2), (5, .getfield 148, 3, 1, 4), (8, .invokestatic 58, 3, 94, 2), (11, .ifCond .eq 12, 3, 23, 0), (14, .iload_n 2, 1, 0, 0), (15, .ifCond .lt 8, 3, 23, 0), (18, .iload_n 2, 1, 0, 0), (19, .iconst 1, 1, 1, 0), (20, .if_icmp .le 6, 3, 26, 0), (23, .ldc 62, 2, 1000001, 1), (25, .ireturn, 1, 0, 0), (26, .aload_n 0, 1, 0, 0), (27, .getfield 25, 3, 6, 2), (30, .getfield 260, 3, 1, 7)],
  [(33, .iload_n 1, 1, 0, 0), (34, .iaload, 1, 0, 0), (35, .istore_n 3, 1, 0, 0), (36, .aload_n 0, 1, 0, 0), (37, .getfield 53, 3, 6, 7), (40, .aload_n 0, 1, 0, 0), (41, .getfield 25, 3, 6, 2), (44, .iload_n 1, 1, 0, 0), (45, .iload_n 2, 1, 0, 0), (46, .ifCond .ne 10, 3, 56, 0), (49, .iload_n 3, 1, 0, 0), (50, .invokestatic 266, 3, 57, 1), (53, .goto 7, 3, 60, 0), (56, .iload_n 3, 1, 0, 0), (57, .invokestatic 269, 3, 58, 1), (60, .invokevirtual 272, 3, 59, 3), (63, .ireturn, 1, 0, 0)]]
def tm_k91 : List (List tm_E) := [[(0, .iload_n 1, 1, 0, 0), (1, .aload_n 0, 1, 0, 0), (2, .getfield 53, 3, 6, 7), (5, .getfield 275, 3, 5, 1), (8, .invokestatic 58, 3, 94, 2), (11, .ifCond .eq 15, 3, 26, 0), (14, .aload_n 0, 1, 0, 0), (15, .getfield 53, 3, 6, 7), (18, .getfield 276, 3, 5, 0), (21, .iload_n 1, 1, 0, 0), (22, .iaload, 1, 0, 0), (23, .goto 5, 3, 28, 0), (26, .ldc 191, 2, 1000000, 1), (28, .ireturn, 1, 0, 0)]]
def tm_k92 : List (List tm_E) := [[(0, .iload_n 1, 1, 0, 0), (1, .tableswitch 120 0 8 #[51, 56, 64, 72, 80, 88, 96, 104, 112], 51, 0, 0)],
  [(52, .aload_n 0, 1, 0, 0), (53, .invokevirtual 279, 3, 97, 0), (56, .ireturn, 1, 0, 0), (57, .aload_n 0, 1, 0, 0), (58, .getfield 25, 3, 6, 2), (61, .getfield 122, 3, 1, 0)],
  [(64, .ireturn, 1, 0, 0), (65, .aload_n 0, 1, 0, 0), (66, .getfield 25, 3, 6, 2), (69, .getfield 145, 3, 1, 3), (72, .ireturn, 1, 0, 0), (73, .aload_n 0, 1, 0, 0), (74, .getfield 25, 3, 6, 2), (77, .getfield 148, 3, 1, 4), (80, .ireturn, 1, 0, 0), (81, .aload_n 0, 1, 0, 0), (82, .getfield 25, 3, 6, 2), (85, .getfield 133, 3, 1, 14), (88, .ireturn, 1, 0, 0), (89, .aload_n 0, 1, 0, 0), (90, .getfield 25, 3, 6, 2), (93, .getfield 142, 3, 1, 12)],
  [(96, .ireturn, 1, 0, 0), (97, .aload_n 0, 1, 0, 0), (98, .getfield 25, 3, 6, 2), (101, .getfield 172, 3, 1, 13), (104, .ireturn, 1, 0, 0), (105, .aload_n 0, 1, 0, 0), (106, .getfield 39, 3, 6, 5), (109, .getfield 160, 3, 0, 0), (112, .ireturn, 1, 0, 0), (113, .aload_n 0, 1, 0, 0), (114, .getfield 18, 3, 6, 1), (117, .getfield 105, 3, 4, 1), (120, .ireturn, 1, 0, 0), (121, .ldc 62, 2, 1000001, 1), (123, .ireturn, 1, 0, 0)]]
def tm_k93 : List (List tm_E) := [[(0, .aload_n 0, 1, 0, 0), (1, .getfield 282, 3, 6, 8), (4, .ireturn, 1, 0, 0)]]
def tm_k94 : List (List tm_E) := [[(0, .iload_n 0, 1, 0, 0), (1, .ifCond .lt 12, 3, 13, 0), (4, .iload_n 0, 1, 0, 0), (5, .iload_n 1, 1, 0, 0), (6, .if_icmp .ge 7, 3, 13, 0), (9, .iconst 1, 1, 1, 0), (10, .goto 4, 3, 14, 0), (13, .iconst 0, 1, 0, 0), (14, .ireturn, 1, 0, 0)]]
def tm_k95 : List (List tm_E) := [[(0, .aload_n 0, 1, 0, 0), (1, .iload_n 1, 1, 0, 0), (2, .putfield 282, 3, 6, 8), (5, .ldc_w 285, 3, 1000010, 1), (8, .iload_n 1, 1, 0, 0), (9, .isub, 1, 0, 0), (10, .ireturn, 1, 0, 0)]]
def tm_k96 : List (List tm_E) := [[(0, .aload_n 0, 1, 0, 0), (1, .iconst 0, 1, 0, 0), (2, .putfield 282, 3, 6, 8), (5, .iload_n 1, 1, 0, 0), (6, .ireturn, 1, 0, 0)]]
def tm_k97 : List (List tm_E) := [[(0, .iconst 0, 1, 0, 0), (1, .istore_n 1, 1, 0, 0), (2, .iconst 0, 1, 0, 0), (3, .istore_n 2, 1, 0, 0), (4, .iload_n 2, 1, 0, 0), (5, .bipush 8, 2, 8, 0), (7, .if_icmp .ge 24, 3, 31, 0), (10, .aload_n 0, 1, 0, 0), (11, .getfield 11, 3, 6, 0), (14, .iload_n 2, 1, 0, 0), (15, .aaload, 1, 0, 0), (16, .getfield 74, 3, 2, 1), (19, .ifCond .eq 6, 3, 25, 0), (22, .iinc 1 1, 3, 1, 0), (25, .iinc 2 1, 3, 1, 0), (28, .goto (-24), 3, 4, 0), (31, .iload_n 1, 1, 0, 0)],
  [(32, .ireturn, 1, 0, 0)]]
def tm_k98 : List (List tm_E) := [[(0, .iload_n 0, 1, 0, 0), (1, .ldc 191, 2, 1000000, 1), (3, .if_icmp .eq 8, 3, 11, 0), (6, .iload_n 1, 1, 0, 0), (7, .iconst 1, 1, 1, 0), (8, .if_icmp .ne 7, 3, 15, 0), (11, .iload_n 0, 1, 0, 0), (12, .goto 7, 3, 19, 0), (15, .iload_n 0, 1, 0, 0), (16, .invokestatic 286, 3, 189, 1), (19, .ireturn, 1, 0, 0)]]
def tm_k99 : List (List tm_E) := [[(0, .iconst 0, 1, 0, 0), (1, .istore 4, 2, 0, 0), (3, .iload 4, 2, 0, 0), (5, .iload_n 3, 1, 0, 0), (6, .if_icmp .ge 61, 3, 67, 0), (9, .aload_n 1, 1, 0, 0), (10, .getfield 82, 3, 2, 0), (13, .iload_n 2, 1, 0, 0), (14, .iconst 2, 1, 2, 0), (15, .iload 4, 2, 0, 0), (17, .imul, 1, 0, 0), (18, .iadd, 1, 0, 0), (19, .iconst 1, 1, 1, 0), (20, .iadd, 1, 0, 0), (21, .iaload, 1, 0, 0), (22, .istore 5, 2, 0, 0), (24, .aload_n 1, 1, 0, 0), (25, .getfield 82, 3, 2, 0), (28, .iload_n 2, 1, 0, 0), (29, .iconst 2, 1, 2, 0), (30, .iload 4, 2, 0, 0)],
  [(32, .imul, 1, 0, 0), (33, .iadd, 1, 0, 0), (34, .iaload, 1, 0, 0), (35, .aload_n 0, 1, 0, 0), (36, .getfield 25, 3, 6, 2), (39, .getfield 148, 3, 1, 4), (42, .invokestatic 58, 3, 94, 2), (45, .ifCond .eq 14, 3, 59, 0), (48, .iload 5, 2, 0, 0), (50, .ifCond .lt 9, 3, 59, 0), (53, .iload 5, 2, 0, 0), (55, .iconst 1, 1, 1, 0), (56, .if_icmp .le 5, 3, 61, 0), (59, .iconst 0, 1, 0, 0), (60, .ireturn, 1, 0, 0), (61, .iinc 4 1, 3, 1, 0)],
  [(64, .goto (-61), 3, 3, 0), (67, .iconst 1, 1, 1, 0), (68, .ireturn, 1, 0, 0)]]
def tm_k100 : List (List tm_E) := [[(0, .iconst 0, 1, 0, 0), (1, .istore 4, 2, 0, 0), (3, .iconst 0, 1, 0, 0), (4, .istore 5, 2, 0, 0), (6, .iload 5, 2, 0, 0), (8, .iload_n 2, 1, 0, 0), (9, .if_icmp .ge 44, 3, 53, 0), (12, .aload_n 0, 1, 0, 0), (13, .getfield 82, 3, 2, 0), (16, .iload_n 1, 1, 0, 0), (17, .iconst 2, 1, 2, 0), (18, .iload 5, 2, 0, 0), (20, .imul, 1, 0, 0), (21, .iadd, 1, 0, 0), (22, .iconst 1, 1, 1, 0), (23, .iadd, 1, 0, 0), (24, .iaload, 1, 0, 0), (25, .iload_n 3, 1, 0, 0), (26, .if_icmp .ne 21, 3, 47, 0), (29, .iload 4, 2, 0, 0), (31, .iconst 1, 1, 1, 0)],
  [(32, .aload_n 0, 1, 0, 0), (33, .getfield 82, 3, 2, 0), (36, .iload_n 1, 1, 0, 0), (37, .iconst 2, 1, 2, 0), (38, .iload 5, 2, 0, 0), (40, .imul, 1, 0, 0), (41, .iadd, 1, 0, 0), (42, .iaload, 1, 0, 0), (43, .ishl, 1, 0, 0), (44, .ior, 1, 0, 0), (45, .istore 4, 2, 0, 0), (47, .iinc 5 1, 3, 1, 0), (50, .goto (-44), 3, 6, 0), (53, .iload 4, 2, 0, 0), (55, .ireturn, 1, 0, 0)]]
def tm_k101 : List (List tm_E) := [[(0, .iload_n 1, 1, 0, 0), (1, .ifCond .ne 11, 3, 12, 0), (4, .aload_n 0, 1, 0, 0), (5, .getfield 46, 3, 6, 6), (8, .getfield 291, 3, 3, 3), (11, .ireturn, 1, 0, 0), (12, .aload_n 0, 1, 0, 0), (13, .getfield 46, 3, 6, 6), (16, .getfield 291, 3, 3, 3), (19, .ifCond .ne 6, 3, 25, 0), (22, .ldc 191, 2, 1000000, 1), (24, .ireturn, 1, 0, 0), (25, .iload_n 1, 1, 0, 0), (26, .iconst 1, 1, 1, 0), (27, .if_icmp .ne 13, 3, 40, 0), (30, .aload_n 0, 1, 0, 0), (31, .getfield 46, 3, 6, 6)],
  [(34, .getfield 294, 3, 3, 4), (37, .goto 10, 3, 47, 0), (40, .aload_n 0, 1, 0, 0), (41, .getfield 46, 3, 6, 6), (44, .getfield 297, 3, 3, 5), (47, .ireturn, 1, 0, 0)]]
def tm_k102 : List (List tm_E) := [[(0, .iload_n 1, 1, 0, 0), (1, .tableswitch 74 0 4 #[35, 37, 74, 74, 58], 35, 0, 0)],
  [(36, .iconst 1, 1, 1, 0), (37, .ireturn, 1, 0, 0), (38, .iload_n 0, 1, 0, 0), (39, .iconst 1, 1, 1, 0), (40, .if_icmp .eq 13, 3, 53, 0), (43, .iload_n 0, 1, 0, 0), (44, .iconst 2, 1, 2, 0), (45, .if_icmp .eq 8, 3, 53, 0), (48, .iload_n 0, 1, 0, 0), (49, .iconst 3, 1, 3, 0), (50, .if_icmp .ne 7, 3, 57, 0), (53, .iconst 1, 1, 1, 0), (54, .goto 4, 3, 58, 0), (57, .iconst 0, 1, 0, 0), (58, .ireturn, 1, 0, 0), (59, .iload_n 0, 1, 0, 0), (60, .iconst 4, 1, 4, 0), (61, .if_icmp .eq 8, 3, 69, 0)],
  [(64, .iload_n 0, 1, 0, 0), (65, .iconst 5, 1, 5, 0), (66, .if_icmp .ne 7, 3, 73, 0), (69, .iconst 1, 1, 1, 0), (70, .goto 4, 3, 74, 0), (73, .iconst 0, 1, 0, 0), (74, .ireturn, 1, 0, 0), (75, .iload_n 0, 1, 0, 0), (76, .iload_n 1, 1, 0, 0), (77, .if_icmp .ne 7, 3, 84, 0), (80, .iconst 1, 1, 1, 0), (81, .goto 4, 3, 85, 0), (84, .iconst 0, 1, 0, 0), (85, .ireturn, 1, 0, 0)]]
def tm_k103 : List (List tm_E) := [[(0, .iload_n 0, 1, 0, 0), (1, .iload_n 1, 1, 0, 0), (2, .if_icmp .lt 12, 3, 14, 0), (5, .iload_n 0, 1, 0, 0), (6, .iload_n 2, 1, 0, 0), (7, .if_icmp .gt 7, 3, 14, 0), (10, .iconst 1, 1, 1, 0), (11, .goto 4, 3, 15, 0), (14, .iconst 0, 1, 0, 0), (15, .ireturn, 1, 0, 0)]]
def tm_k104 : List (List tm_E) := [[(0, .aload_n 0, 1, 0, 0), (1, .iload_n 1, 1, 0, 0), (2, .putfield 43, 3, 7, 3), (5, .ldc 46, 2, 1000010, 1), (7, .iload_n 1, 1, 0, 0), (8, .isub, 1, 0, 0), (9, .ireturn, 1, 0, 0)]]
def tm_k105 : List (List tm_E) := [[(0, .aload_n 0, 1, 0, 0), (1, .iconst 0, 1, 0, 0), (2, .putfield 43, 3, 7, 3), (5, .iload_n 1, 1, 0, 0), (6, .ireturn, 1, 0, 0)]]
def tm_k106 : List (List tm_E) := [[(0, .iload_n 0, 1, 0, 0), (1, .iconst 0, 1, 0, 0), (2, .bipush 7, 2, 7, 0), (4, .invokestatic 47, 3, 103, 3), (7, .ireturn, 1, 0, 0)]]
def tm_k107 : List (List tm_E) := [[(0, .iload_n 1, 1, 0, 0), (1, .invokestatic 51, 3, 106, 1), (4, .ifCond .eq 18, 3, 22, 0), (7, .iload_n 2, 1, 0, 0), (8, .iconst 0, 1, 0, 0), (9, .iconst 2, 1, 2, 0), (10, .invokestatic 47, 3, 103, 3), (13, .ifCond .eq 9, 3, 22, 0), (16, .iload_n 3, 1, 0, 0), (17, .bipush 40, 2, 40, 0), (19, .if_icmp .le 6, 3, 25, 0), (22, .ldc 55, 2, 1000001, 1), (24, .ireturn, 1, 0, 0), (25, .iload_n 3, 1, 0, 0), (26, .ifCond .ge 9, 3, 35, 0), (29, .aload_n 0, 1, 0, 0), (30, .iconst 4, 1, 4, 0), (31, .invokevirtual 56, 3, 104, 1)],
  [(34, .ireturn, 1, 0, 0), (35, .aload_n 0, 1, 0, 0), (36, .getfield 7, 3, 7, 0), (39, .iload_n 1, 1, 0, 0), (40, .iload_n 2, 1, 0, 0), (41, .iconst 1, 1, 1, 0), (42, .iadd, 1, 0, 0), (43, .iastore, 1, 0, 0), (44, .aload_n 0, 1, 0, 0), (45, .getfield 13, 3, 7, 1), (48, .iload_n 1, 1, 0, 0), (49, .iload_n 3, 1, 0, 0), (50, .iastore, 1, 0, 0), (51, .iconst 0, 1, 0, 0), (52, .istore 4, 2, 0, 0), (54, .iload 4, 2, 0, 0), (56, .bipush 40, 2, 40, 0), (58, .if_icmp .ge 22, 3, 80, 0), (61, .aload_n 0, 1, 0, 0), (62, .getfield 16, 3, 7, 2)],
  [(65, .bipush 40, 2, 40, 0), (67, .iload_n 1, 1, 0, 0), (68, .imul, 1, 0, 0), (69, .iload 4, 2, 0, 0), (71, .iadd, 1, 0, 0), (72, .iconst 0, 1, 0, 0), (73, .iastore, 1, 0, 0), (74, .iinc 4 1, 3, 1, 0), (77, .goto (-23), 3, 54, 0), (80, .aload_n 0, 1, 0, 0), (81, .iload_n 3, 1, 0, 0), (82, .invokevirtual 60, 3, 105, 1), (85, .ireturn, 1, 0, 0)]]
def tm_k108 : List (List tm_E) := [[(0, .iload_n 1, 1, 0, 0), (1, .invokestatic 51, 3, 106, 1), (4, .ifCond .ne 6, 3, 10, 0), (7, .ldc 55, 2, 1000001, 1), (9, .ireturn, 1, 0, 0), (10, .aload_n 0, 1, 0, 0), (11, .getfield 7, 3, 7, 0), (14, .iload_n 1, 1, 0, 0), (15, .iaload, 1, 0, 0), (16, .ifCond .ne 9, 3, 25, 0), (19, .aload_n 0, 1, 0, 0), (20, .iconst 1, 1, 1, 0), (21, .invokevirtual 56, 3, 104, 1), (24, .ireturn, 1, 0, 0), (25, .iload_n 2, 1, 0, 0), (26, .iconst 0, 1, 0, 0), (27, .aload_n 0, 1, 0, 0), (28, .getfield 13, 3, 7, 1), (31, .iload_n 1, 1, 0, 0)],
  [(32, .iaload, 1, 0, 0), (33, .iconst 1, 1, 1, 0), (34, .isub, 1, 0, 0), (35, .invokestatic 47, 3, 103, 3), (38, .ifCond .ne 9, 3, 47, 0), (41, .aload_n 0, 1, 0, 0), (42, .iconst 2, 1, 2, 0), (43, .invokevirtual 56, 3, 104, 1), (46, .ireturn, 1, 0, 0), (47, .aload_n 0, 1, 0, 0), (48, .getfield 7, 3, 7, 0), (51, .iload_n 1, 1, 0, 0), (52, .iaload, 1, 0, 0), (53, .iconst 1, 1, 1, 0), (54, .if_icmp .ne 8, 3, 62, 0), (57, .iload_n 3, 1, 0, 0), (58, .i2b, 1, 0, 0), (59, .goto 19, 3, 78, 0), (62, .aload_n 0, 1, 0, 0), (63, .getfield 7, 3, 7, 0)],
  [(66, .iload_n 1, 1, 0, 0), (67, .iaload, 1, 0, 0), (68, .iconst 2, 1, 2, 0), (69, .if_icmp .ne 8, 3, 77, 0), (72, .iload_n 3, 1, 0, 0), (73, .i2s, 1, 0, 0), (74, .goto 4, 3, 78, 0), (77, .iload_n 3, 1, 0, 0), (78, .istore 4, 2, 0, 0), (80, .aload_n 0, 1, 0, 0), (81, .getfield 16, 3, 7, 2), (84, .bipush 40, 2, 40, 0), (86, .iload_n 1, 1, 0, 0), (87, .imul, 1, 0, 0), (88, .iload_n 2, 1, 0, 0), (89, .iadd, 1, 0, 0), (90, .iload 4, 2, 0, 0), (92, .iastore, 1, 0, 0), (93, .aload_n 0, 1, 0, 0), (94, .iload 4, 2, 0, 0)],
  [(96, .invokevirtual 60, 3, 105, 1), (99, .ireturn, 1, 0, 0)]]
def tm_k109 : List (List tm_E) := [[(0, .iload_n 1, 1, 0, 0), (1, .invokestatic 51, 3, 106, 1), (4, .ifCond .eq 10, 3, 14, 0), (7, .iload_n 3, 1, 0, 0), (8, .invokestatic 51, 3, 106, 1), (11, .ifCond .ne 6, 3, 17, 0), (14, .ldc 55, 2, 1000001, 1), (16, .ireturn, 1, 0, 0), (17, .aload_n 0, 1, 0, 0), (18, .getfield 7, 3, 7, 0), (21, .iload_n 1, 1, 0, 0), (22, .iaload, 1, 0, 0), (23, .ifCond .eq 12, 3, 35, 0), (26, .aload_n 0, 1, 0, 0), (27, .getfield 7, 3, 7, 0), (30, .iload_n 3, 1, 0, 0), (31, .iaload, 1, 0, 0)],
  [(32, .ifCond .ne 9, 3, 41, 0), (35, .aload_n 0, 1, 0, 0), (36, .iconst 1, 1, 1, 0), (37, .invokevirtual 56, 3, 104, 1), (40, .ireturn, 1, 0, 0), (41, .aload_n 0, 1, 0, 0), (42, .getfield 7, 3, 7, 0), (45, .iload_n 1, 1, 0, 0), (46, .iaload, 1, 0, 0), (47, .aload_n 0, 1, 0, 0), (48, .getfield 7, 3, 7, 0), (51, .iload_n 3, 1, 0, 0), (52, .iaload, 1, 0, 0), (53, .if_icmp .eq 9, 3, 62, 0), (56, .aload_n 0, 1, 0, 0), (57, .iconst 5, 1, 5, 0), (58, .invokevirtual 56, 3, 104, 1), (61, .ireturn, 1, 0, 0), (62, .iload_n 2, 1, 0, 0), (63, .ifCond .lt 40, 3, 103, 0)],
  [(66, .iload 4, 2, 0, 0), (68, .ifCond .lt 35, 3, 103, 0), (71, .iload 5, 2, 0, 0), (73, .ifCond .lt 30, 3, 103, 0), (76, .iload 5, 2, 0, 0), (78, .aload_n 0, 1, 0, 0), (79, .getfield 13, 3, 7, 1), (82, .iload_n 1, 1, 0, 0), (83, .iaload, 1, 0, 0), (84, .iload_n 2, 1, 0, 0), (85, .isub, 1, 0, 0), (86, .if_icmp .gt 17, 3, 103, 0), (89, .iload 5, 2, 0, 0), (91, .aload_n 0, 1, 0, 0), (92, .getfield 13, 3, 7, 1), (95, .iload_n 3, 1, 0, 0)],
  [(96, .iaload, 1, 0, 0), (97, .iload 4, 2, 0, 0), (99, .isub, 1, 0, 0), (100, .if_icmp .le 9, 3, 109, 0), (103, .aload_n 0, 1, 0, 0), (104, .iconst 2, 1, 2, 0), (105, .invokevirtual 56, 3, 104, 1), (108, .ireturn, 1, 0, 0), (109, .iload 4, 2, 0, 0), (111, .iload_n 2, 1, 0, 0), (112, .if_icmp .le 7, 3, 119, 0), (115, .iconst 1, 1, 1, 0), (116, .goto 4, 3, 120, 0), (119, .iconst 0, 1, 0, 0), (120, .istore 6, 2, 0, 0), (122, .iconst 0, 1, 0, 0), (123, .istore 7, 2, 0, 0), (125, .iload 7, 2, 0, 0), (127, .iload 5, 2, 0, 0)],
  [(129, .if_icmp .ge 57, 3, 186, 0), (132, .iload 6, 2, 0, 0), (134, .ifCond .eq 13, 3, 147, 0), (137, .iload 5, 2, 0, 0), (139, .iconst 1, 1, 1, 0), (140, .isub, 1, 0, 0), (141, .iload 7, 2, 0, 0), (143, .isub, 1, 0, 0), (144, .goto 5, 3, 149, 0), (147, .iload 7, 2, 0, 0), (149, .istore 8, 2, 0, 0), (151, .aload_n 0, 1, 0, 0), (152, .getfield 16, 3, 7, 2), (155, .bipush 40, 2, 40, 0), (157, .iload_n 3, 1, 0, 0), (158, .imul, 1, 0, 0), (159, .iload 4, 2, 0, 0)],
  [(161, .iadd, 1, 0, 0), (162, .iload 8, 2, 0, 0), (164, .iadd, 1, 0, 0), (165, .aload_n 0, 1, 0, 0), (166, .getfield 16, 3, 7, 2), (169, .bipush 40, 2, 40, 0), (171, .iload_n 1, 1, 0, 0), (172, .imul, 1, 0, 0), (173, .iload_n 2, 1, 0, 0), (174, .iadd, 1, 0, 0), (175, .iload 8, 2, 0, 0), (177, .iadd, 1, 0, 0), (178, .iaload, 1, 0, 0), (179, .iastore, 1, 0, 0), (180, .iinc 7 1, 3, 1, 0), (183, .goto (-58), 3, 125, 0), (186, .aload_n 0, 1, 0, 0), (187, .iload 5, 2, 0, 0), (189, .invokevirtual 60, 3, 105, 1)],
  [(192, .ireturn, 1, 0, 0)]]
def tm_k110 : List (List tm_E) := [[(0, .iload_n 1, 1, 0, 0), (1, .invokestatic 51, 3, 106, 1), (4, .ifCond .ne 6, 3, 10, 0), (7, .ldc 55, 2, 1000001, 1), (9, .ireturn, 1, 0, 0), (10, .aload_n 0, 1, 0, 0), (11, .getfield 7, 3, 7, 0), (14, .iload_n 1, 1, 0, 0), (15, .iaload, 1, 0, 0), (16, .ifCond .ne 9, 3, 25, 0), (19, .aload_n 0, 1, 0, 0), (20, .iconst 1, 1, 1, 0), (21, .invokevirtual 56, 3, 104, 1), (24, .ireturn, 1, 0, 0), (25, .aload_n 0, 1, 0, 0), (26, .getfield 7, 3, 7, 0), (29, .iload_n 1, 1, 0, 0), (30, .iconst 0, 1, 0, 0), (31, .iastore, 1, 0, 0)],
  [(32, .aload_n 0, 1, 0, 0), (33, .aload_n 0, 1, 0, 0), (34, .getfield 13, 3, 7, 1), (37, .iload_n 1, 1, 0, 0), (38, .iaload, 1, 0, 0), (39, .invokevirtual 60, 3, 105, 1), (42, .ireturn, 1, 0, 0)]]
def tm_k111 : List (List tm_E) := [[(0, .aload_n 0, 1, 0, 0), (1, .getfield 43, 3, 7, 3), (4, .ireturn, 1, 0, 0)]]
def tm_k112 : List (List tm_E) := [[(0, .aload_n 0, 1, 0, 0), (1, .getfield 19, 3, 7, 4), (4, .aload_n 0, 1, 0, 0), (5, .getfield 63, 3, 7, 5), (8, .iload_n 1, 1, 0, 0), (9, .iadd, 1, 0, 0), (10, .iaload, 1, 0, 0), (11, .ireturn, 1, 0, 0)]]
def tm_k113 : List (List tm_E) := [[(0, .aload_n 0, 1, 0, 0), (1, .getfield 19, 3, 7, 4), (4, .aload_n 0, 1, 0, 0), (5, .getfield 63, 3, 7, 5), (8, .iload_n 1, 1, 0, 0), (9, .iadd, 1, 0, 0), (10, .iload_n 2, 1, 0, 0), (11, .iastore, 1, 0, 0), (12, .return_, 1, 0, 0)]]
def tm_k114 : List (List tm_E) := [[(0, .iconst 0, 1, 0, 0), (1, .istore_n 3, 1, 0, 0), (2, .iload_n 3, 1, 0, 0), (3, .bipush 49, 2, 49, 0), (5, .if_icmp .ge 31, 3, 36, 0), (8, .aload_n 0, 1, 0, 0), (9, .getfield 19, 3, 7, 4), (12, .bipush 49, 2, 49, 0), (14, .iload_n 2, 1, 0, 0), (15, .imul, 1, 0, 0), (16, .iload_n 3, 1, 0, 0), (17, .iadd, 1, 0, 0), (18, .aload_n 0, 1, 0, 0), (19, .getfield 19, 3, 7, 4), (22, .bipush 49, 2, 49, 0), (24, .iload_n 1, 1, 0, 0), (25, .imul, 1, 0, 0), (26, .iload_n 3, 1, 0, 0), (27, .iadd, 1, 0, 0), (28, .iaload, 1, 0, 0), (29, .iastore, 1, 0, 0), (30, .iinc 3 1, 3, 1, 0)],
  [(33, .goto (-31), 3, 2, 0), (36, .return_, 1, 0, 0)]]
def tm_k115 : List (List tm_E) := [[(0, .iload_n 1, 1, 0, 0), (1, .iconst 0, 1, 0, 0), (2, .aload_n 0, 1, 0, 0), (3, .iconst 3, 1, 3, 0), (4, .invokevirtual 66, 3, 112, 1), (7, .iconst 1, 1, 1, 0), (8, .isub, 1, 0, 0), (9, .invokestatic 47, 3, 103, 3), (12, .ireturn, 1, 0, 0)]]
def tm_k116 : List (List tm_E) := [[(0, .iload_n 1, 1, 0, 0), (1, .iconst 0, 1, 0, 0), (2, .aload_n 0, 1, 0, 0), (3, .iconst 4, 1, 4, 0), (4, .invokevirtual 66, 3, 112, 1), (7, .iconst 1, 1, 1, 0), (8, .isub, 1, 0, 0), (9, .invokestatic 47, 3, 103, 3), (12, .ireturn, 1, 0, 0)]]
def tm_k117 : List (List tm_E) := [[(0, .aload_n 0, 1, 0, 0), (1, .bipush 24, 2, 24, 0), (3, .iconst 5, 1, 5, 0), (4, .iload_n 1, 1, 0, 0), (5, .imul, 1, 0, 0), (6, .iadd, 1, 0, 0), (7, .iload_n 2, 1, 0, 0), (8, .iadd, 1, 0, 0), (9, .invokevirtual 66, 3, 112, 1), (12, .ireturn, 1, 0, 0)]]
def tm_k118 : List (List tm_E) := [[(0, .iload_n 1, 1, 0, 0), (1, .iconst 0, 1, 0, 0), (2, .sipush 255, 3, 255, 0), (5, .invokestatic 47, 3, 103, 3), (8, .ifCond .ne 6, 3, 14, 0), (11, .ldc 55, 2, 1000001, 1), (13, .ireturn, 1, 0, 0), (14, .aload_n 0, 1, 0, 0), (15, .getfield 39, 3, 7, 10), (18, .sipush 160, 3, 160, 0), (21, .if_icmp .ne 6, 3, 27, 0), (24, .ldc 69, 2, 1000003, 1), (26, .ireturn, 1, 0, 0), (27, .aload_n 0, 1, 0, 0), (28, .getfield 29, 3, 7, 9), (31, .aload_n 0, 1, 0, 0)],
  [(32, .getfield 39, 3, 7, 10), (35, .iload_n 1, 1, 0, 0), (36, .i2b, 1, 0, 0), (37, .bastore, 1, 0, 0), (38, .aload_n 0, 1, 0, 0), (39, .dup, 1, 0, 0), (40, .getfield 39, 3, 7, 10), (43, .iconst 1, 1, 1, 0), (44, .iadd, 1, 0, 0), (45, .putfield 39, 3, 7, 10), (48, .aload_n 0, 1, 0, 0), (49, .getfield 39, 3, 7, 10), (52, .ireturn, 1, 0, 0)]]
def tm_k119 : List (List tm_E) := [[(0, .aload_n 0, 1, 0, 0), (1, .getfield 70, 3, 7, 11), (4, .aload_n 0, 1, 0, 0), (5, .getfield 39, 3, 7, 10), (8, .if_icmp .ge 19, 3, 27, 0), (11, .aload_n 0, 1, 0, 0), (12, .getfield 29, 3, 7, 9), (15, .aload_n 0, 1, 0, 0), (16, .getfield 70, 3, 7, 11), (19, .baload, 1, 0, 0), (20, .sipush 255, 3, 255, 0), (23, .iand, 1, 0, 0), (24, .goto 4, 3, 28, 0), (27, .iconst (-1), 1, 1, 1), (28, .ireturn, 1, 0, 0)]]
def tm_k120 : List (List tm_E) := [[(0, .aload_n 0, 1, 0, 0), (1, .aload_n 0, 1, 0, 0), (2, .getfield 70, 3, 7, 11), (5, .putfield 73, 3, 7, 12), (8, .aload_n 0, 1, 0, 0), (9, .iconst 0, 1, 0, 0), (10, .putfield 76, 3, 7, 14), (13, .aload_n 0, 1, 0, 0), (14, .invokevirtual 79, 3, 119, 0), (17, .istore_n 1, 1, 0, 0), (18, .iload_n 1, 1, 0, 0), (19, .ifCond .ge 11, 3, 30, 0), (22, .aload_n 0, 1, 0, 0), (23, .iconst 0, 1, 0, 0), (24, .putfield 83, 3, 7, 13), (27, .goto 147, 3, 174, 0), (30, .iload_n 1, 1, 0, 0), (31, .bipush 48, 2, 48, 0)],
  [(33, .bipush 57, 2, 57, 0), (35, .invokestatic 47, 3, 103, 3), (38, .ifCond .eq 94, 3, 132, 0), (41, .aload_n 0, 1, 0, 0), (42, .invokevirtual 79, 3, 119, 0), (45, .bipush 48, 2, 48, 0), (47, .bipush 57, 2, 57, 0), (49, .invokestatic 47, 3, 103, 3), (52, .ifCond .eq 55, 3, 107, 0), (55, .aload_n 0, 1, 0, 0), (56, .aload_n 0, 1, 0, 0), (57, .getfield 70, 3, 7, 11), (60, .aload_n 0, 1, 0, 0), (61, .getfield 73, 3, 7, 12)],
  [(64, .isub, 1, 0, 0), (65, .iconst 3, 1, 3, 0), (66, .if_icmp .ge 21, 3, 87, 0), (69, .bipush 10, 2, 10, 0), (71, .aload_n 0, 1, 0, 0), (72, .getfield 76, 3, 7, 14), (75, .imul, 1, 0, 0), (76, .aload_n 0, 1, 0, 0), (77, .invokevirtual 79, 3, 119, 0), (80, .iadd, 1, 0, 0), (81, .bipush 48, 2, 48, 0), (83, .isub, 1, 0, 0), (84, .goto 7, 3, 91, 0), (87, .aload_n 0, 1, 0, 0), (88, .getfield 76, 3, 7, 14), (91, .putfield 76, 3, 7, 14), (94, .aload_n 0, 1, 0, 0), (95, .dup, 1, 0, 0)],
  [(96, .getfield 70, 3, 7, 11), (99, .iconst 1, 1, 1, 0), (100, .iadd, 1, 0, 0), (101, .putfield 70, 3, 7, 11), (104, .goto (-63), 3, 41, 0), (107, .aload_n 0, 1, 0, 0), (108, .aload_n 0, 1, 0, 0), (109, .getfield 70, 3, 7, 11), (112, .aload_n 0, 1, 0, 0), (113, .getfield 73, 3, 7, 12), (116, .isub, 1, 0, 0), (117, .iconst 3, 1, 3, 0), (118, .if_icmp .le 7, 3, 125, 0), (121, .iconst (-1), 1, 1, 1), (122, .goto 4, 3, 126, 0), (125, .iconst 1, 1, 1, 0), (126, .putfield 83, 3, 7, 13)],
  [(129, .goto 45, 3, 174, 0), (132, .aload_n 0, 1, 0, 0), (133, .dup, 1, 0, 0), (134, .getfield 70, 3, 7, 11), (137, .iconst 1, 1, 1, 0), (138, .iadd, 1, 0, 0), (139, .putfield 70, 3, 7, 11), (142, .aload_n 0, 1, 0, 0), (143, .iload_n 1, 1, 0, 0), (144, .bipush 97, 2, 97, 0), (146, .bipush 122, 2, 122, 0), (148, .invokestatic 47, 3, 103, 3), (151, .ifCond .ne 15, 3, 166, 0), (154, .iload_n 1, 1, 0, 0), (155, .bipush 44, 2, 44, 0), (157, .if_icmp .eq 9, 3, 166, 0)],
  [(160, .iload_n 1, 1, 0, 0), (161, .bipush 59, 2, 59, 0), (163, .if_icmp .ne 7, 3, 170, 0), (166, .iload_n 1, 1, 0, 0), (167, .goto 4, 3, 171, 0), (170, .iconst (-1), 1, 1, 1), (171, .putfield 83, 3, 7, 13), (174, .return_, 1, 0, 0)]]
def tm_k121 : List (List tm_E) := [[(0, .aload_n 0, 1, 0, 0), (1, .getfield 86, 3, 7, 15), (4, .ifCond .ne 16, 3, 20, 0), (7, .aload_n 0, 1, 0, 0), (8, .iload_n 1, 1, 0, 0), (9, .putfield 86, 3, 7, 15), (12, .aload_n 0, 1, 0, 0), (13, .aload_n 0, 1, 0, 0), (14, .getfield 73, 3, 7, 12), (17, .putfield 89, 3, 7, 16), (20, .return_, 1, 0, 0)]]
def tm_k122 : List (List tm_E) := [[(0, .aload_n 0, 1, 0, 0), (1, .getfield 86, 3, 7, 15), (4, .ifCond .ne 23, 3, 27, 0), (7, .aload_n 0, 1, 0, 0), (8, .getfield 83, 3, 7, 13), (11, .iload_n 1, 1, 0, 0), (12, .if_icmp .ne 10, 3, 22, 0), (15, .aload_n 0, 1, 0, 0), (16, .invokevirtual 92, 3, 120, 0), (19, .goto 8, 3, 27, 0), (22, .aload_n 0, 1, 0, 0), (23, .iconst 1, 1, 1, 0), (24, .invokevirtual 95, 3, 121, 1), (27, .return_, 1, 0, 0)]]
def tm_k123 : List (List tm_E) := [[(0, .aload_n 0, 1, 0, 0), (1, .getfield 76, 3, 7, 14), (4, .istore 4, 2, 0, 0), (6, .aload_n 0, 1, 0, 0), (7, .getfield 86, 3, 7, 15), (10, .ifCond .ne 51, 3, 61, 0), (13, .aload_n 0, 1, 0, 0), (14, .getfield 83, 3, 7, 13), (17, .iconst 1, 1, 1, 0), (18, .if_icmp .eq 11, 3, 29, 0), (21, .aload_n 0, 1, 0, 0), (22, .iconst 1, 1, 1, 0), (23, .invokevirtual 95, 3, 121, 1), (26, .goto 35, 3, 61, 0), (29, .aload_n 0, 1, 0, 0), (30, .getfield 76, 3, 7, 14)],
  [(33, .iload_n 1, 1, 0, 0), (34, .iload_n 2, 1, 0, 0), (35, .invokestatic 47, 3, 103, 3), (38, .ifCond .eq 11, 3, 49, 0), (41, .aload_n 0, 1, 0, 0), (42, .getfield 76, 3, 7, 14), (45, .iload_n 3, 1, 0, 0), (46, .if_icmp .ne 11, 3, 57, 0), (49, .aload_n 0, 1, 0, 0), (50, .iconst 2, 1, 2, 0), (51, .invokevirtual 95, 3, 121, 1), (54, .goto 7, 3, 61, 0), (57, .aload_n 0, 1, 0, 0), (58, .invokevirtual 92, 3, 120, 0), (61, .iload 4, 2, 0, 0), (63, .ireturn, 1, 0, 0)]]
def tm_k124 : List (List tm_E) := [[(0, .aload_n 0, 1, 0, 0), (1, .iload_n 1, 1, 0, 0), (2, .iload_n 2, 1, 0, 0), (3, .iconst (-1), 1, 1, 1), (4, .invokevirtual 99, 3, 123, 3), (7, .istore 4, 2, 0, 0), (9, .aload_n 0, 1, 0, 0), (10, .iload_n 3, 1, 0, 0), (11, .invokevirtual 103, 3, 122, 1), (14, .iload 4, 2, 0, 0), (16, .ireturn, 1, 0, 0)]]
def tm_k125 : List (List tm_E) := [[(0, .aload_n 0, 1, 0, 0), (1, .iconst 3, 1, 3, 0), (2, .invokevirtual 66, 3, 112, 1), (5, .bipush 8, 2, 8, 0), (7, .if_icmp .ne 9, 3, 16, 0), (10, .aload_n 0, 1, 0, 0), (11, .iconst 3, 1, 3, 0), (12, .invokevirtual 95, 3, 121, 1), (15, .return_, 1, 0, 0), (16, .aload_n 0, 1, 0, 0), (17, .invokevirtual 92, 3, 120, 0), (20, .aload_n 0, 1, 0, 0), (21, .iconst 0, 1, 0, 0), (22, .invokevirtual 66, 3, 112, 1), (25, .iconst 1, 1, 1, 0), (26, .isub, 1, 0, 0), (27, .istore_n 1, 1, 0, 0), (28, .aload_n 0, 1, 0, 0), (29, .iconst 3, 1, 3, 0), (30, .invokevirtual 66, 3, 112, 1)],
  [(33, .istore_n 2, 1, 0, 0), (34, .aload_n 0, 1, 0, 0), (35, .iconst 0, 1, 0, 0), (36, .iload_n 1, 1, 0, 0), (37, .bipush 44, 2, 44, 0), (39, .invokevirtual 106, 3, 124, 3), (42, .istore_n 3, 1, 0, 0), (43, .aload_n 0, 1, 0, 0), (44, .iconst 0, 1, 0, 0), (45, .iload_n 1, 1, 0, 0), (46, .iload_n 3, 1, 0, 0), (47, .invokevirtual 99, 3, 123, 3), (50, .istore 4, 2, 0, 0), (52, .aload_n 0, 1, 0, 0), (53, .bipush 44, 2, 44, 0), (55, .invokevirtual 103, 3, 122, 1), (58, .aload_n 0, 1, 0, 0), (59, .iconst 0, 1, 0, 0), (60, .iconst 1, 1, 1, 0), (61, .bipush 59, 2, 59, 0), (63, .invokevirtual 106, 3, 124, 3)],
  [(66, .istore 5, 2, 0, 0), (68, .aload_n 0, 1, 0, 0), (69, .getfield 86, 3, 7, 15), (72, .ifCond .ne 53, 3, 125, 0), (75, .aload_n 0, 1, 0, 0), (76, .bipush 8, 2, 8, 0), (78, .iconst 2, 1, 2, 0), (79, .iload_n 2, 1, 0, 0), (80, .imul, 1, 0, 0), (81, .iadd, 1, 0, 0), (82, .iload_n 3, 1, 0, 0), (83, .invokevirtual 109, 3, 113, 2), (86, .aload_n 0, 1, 0, 0), (87, .bipush 8, 2, 8, 0), (89, .iconst 2, 1, 2, 0), (90, .iload_n 2, 1, 0, 0), (91, .imul, 1, 0, 0), (92, .iadd, 1, 0, 0), (93, .iconst 1, 1, 1, 0), (94, .iadd, 1, 0, 0), (95, .iload 4, 2, 0, 0)],
  [(97, .invokevirtual 109, 3, 113, 2), (100, .aload_n 0, 1, 0, 0), (101, .bipush 6, 2, 6, 0), (103, .aload_n 0, 1, 0, 0), (104, .bipush 6, 2, 6, 0), (106, .invokevirtual 66, 3, 112, 1), (109, .iload 5, 2, 0, 0), (111, .iload_n 2, 1, 0, 0), (112, .ishl, 1, 0, 0), (113, .ior, 1, 0, 0), (114, .invokevirtual 109, 3, 113, 2), (117, .aload_n 0, 1, 0, 0), (118, .iconst 3, 1, 3, 0), (119, .iload_n 2, 1, 0, 0), (120, .iconst 1, 1, 1, 0), (121, .iadd, 1, 0, 0), (122, .invokevirtual 109, 3, 113, 2), (125, .return_, 1, 0, 0)]]
def tm_k126 : List (List tm_E) := [[(0, .iload_n 0, 1, 0, 0), (1, .bipush 118, 2, 118, 0), (3, .if_icmp .ne 7, 3, 10, 0), (6, .iconst 1, 1, 1, 0), (7, .goto 44, 3, 51, 0), (10, .iload_n 0, 1, 0, 0), (11, .bipush 119, 2, 119, 0), (13, .if_icmp .ne 7, 3, 20, 0), (16, .iconst 2, 1, 2, 0), (17, .goto 34, 3, 51, 0), (20, .iload_n 0, 1, 0, 0), (21, .bipush 109, 2, 109, 0), (23, .if_icmp .ne 7, 3, 30, 0), (26, .iconst 3, 1, 3, 0), (27, .goto 24, 3, 51, 0), (30, .iload_n 0, 1, 0, 0), (31, .bipush 120, 2, 120, 0)],
  [(33, .if_icmp .ne 7, 3, 40, 0), (36, .iconst 4, 1, 4, 0), (37, .goto 14, 3, 51, 0), (40, .iload_n 0, 1, 0, 0), (41, .bipush 115, 2, 115, 0), (43, .if_icmp .ne 7, 3, 50, 0), (46, .iconst 5, 1, 5, 0), (47, .goto 4, 3, 51, 0), (50, .iconst 0, 1, 0, 0), (51, .ireturn, 1, 0, 0)]]
def tm_k127 : List (List tm_E) := [[(0, .aload_n 0, 1, 0, 0), (1, .getfield 83, 3, 7, 13), (4, .invokestatic 113, 3, 126, 1), (7, .istore_n 1, 1, 0, 0), (8, .iload_n 1, 1, 0, 0), (9, .ifCond .ne 9, 3, 18, 0), (12, .aload_n 0, 1, 0, 0), (13, .iconst 1, 1, 1, 0), (14, .invokevirtual 95, 3, 121, 1), (17, .return_, 1, 0, 0), (18, .aload_n 0, 1, 0, 0), (19, .iconst 4, 1, 4, 0), (20, .invokevirtual 66, 3, 112, 1), (23, .iconst 5, 1, 5, 0), (24, .if_icmp .ne 9, 3, 33, 0), (27, .aload_n 0, 1, 0, 0), (28, .iconst 3, 1, 3, 0), (29, .invokevirtual 95, 3, 121, 1)],
  [(32, .return_, 1, 0, 0), (33, .aload_n 0, 1, 0, 0), (34, .invokevirtual 92, 3, 120, 0), (37, .aload_n 0, 1, 0, 0), (38, .iconst 0, 1, 0, 0), (39, .invokevirtual 66, 3, 112, 1), (42, .iconst 1, 1, 1, 0), (43, .isub, 1, 0, 0), (44, .istore_n 2, 1, 0, 0), (45, .bipush 24, 2, 24, 0), (47, .iconst 5, 1, 5, 0), (48, .aload_n 0, 1, 0, 0), (49, .iconst 4, 1, 4, 0), (50, .invokevirtual 66, 3, 112, 1), (53, .imul, 1, 0, 0), (54, .iadd, 1, 0, 0), (55, .istore_n 3, 1, 0, 0), (56, .aload_n 0, 1, 0, 0), (57, .iconst 0, 1, 0, 0), (58, .iload_n 2, 1, 0, 0), (59, .bipush 44, 2, 44, 0), (61, .invokevirtual 106, 3, 124, 3)],
  [(64, .istore 4, 2, 0, 0), (66, .aload_n 0, 1, 0, 0), (67, .iconst 0, 1, 0, 0), (68, .iload_n 2, 1, 0, 0), (69, .bipush 44, 2, 44, 0), (71, .invokevirtual 106, 3, 124, 3), (74, .istore 5, 2, 0, 0), (76, .aload_n 0, 1, 0, 0), (77, .iconst 0, 1, 0, 0), (78, .iconst 1, 1, 1, 0), (79, .aload_n 0, 1, 0, 0), (80, .iconst 3, 1, 3, 0), (81, .invokevirtual 66, 3, 112, 1), (84, .ishl, 1, 0, 0), (85, .iconst 1, 1, 1, 0), (86, .isub, 1, 0, 0), (87, .bipush 44, 2, 44, 0), (89, .invokevirtual 106, 3, 124, 3), (92, .istore 6, 2, 0, 0), (94, .aload_n 0, 1, 0, 0), (95, .iconst 0, 1, 0, 0)],
  [(96, .bipush 20, 2, 20, 0), (98, .bipush 59, 2, 59, 0), (100, .invokevirtual 106, 3, 124, 3), (103, .istore 7, 2, 0, 0), (105, .aload_n 0, 1, 0, 0), (106, .getfield 86, 3, 7, 15), (109, .ifCond .ne 59, 3, 168, 0), (112, .aload_n 0, 1, 0, 0), (113, .iload_n 3, 1, 0, 0), (114, .iconst 0, 1, 0, 0), (115, .iadd, 1, 0, 0), (116, .iload_n 1, 1, 0, 0), (117, .invokevirtual 109, 3, 113, 2), (120, .aload_n 0, 1, 0, 0), (121, .iload_n 3, 1, 0, 0), (122, .iconst 1, 1, 1, 0), (123, .iadd, 1, 0, 0), (124, .iload 4, 2, 0, 0), (126, .invokevirtual 109, 3, 113, 2)],
  [(129, .aload_n 0, 1, 0, 0), (130, .iload_n 3, 1, 0, 0), (131, .iconst 2, 1, 2, 0), (132, .iadd, 1, 0, 0), (133, .iload 5, 2, 0, 0), (135, .invokevirtual 109, 3, 113, 2), (138, .aload_n 0, 1, 0, 0), (139, .iload_n 3, 1, 0, 0), (140, .iconst 3, 1, 3, 0), (141, .iadd, 1, 0, 0), (142, .iload 6, 2, 0, 0), (144, .invokevirtual 109, 3, 113, 2), (147, .aload_n 0, 1, 0, 0), (148, .iload_n 3, 1, 0, 0), (149, .iconst 4, 1, 4, 0), (150, .iadd, 1, 0, 0), (151, .iload 7, 2, 0, 0), (153, .invokevirtual 109, 3, 113, 2), (156, .aload_n 0, 1, 0, 0), (157, .iconst 4, 1, 4, 0), (158, .aload_n 0, 1, 0, 0), (159, .iconst 4, 1, 4, 0)],
  [(160, .invokevirtual 66, 3, 112, 1), (163, .iconst 1, 1, 1, 0), (164, .iadd, 1, 0, 0), (165, .invokevirtual 109, 3, 113, 2), (168, .return_, 1, 0, 0)]]
def tm_k128 : List (List tm_E) := [[(0, .aload_n 0, 1, 0, 0), (1, .sipush 147, 3, 147, 0), (4, .putfield 63, 3, 7, 5), (7, .iconst 0, 1, 0, 0), (8, .istore_n 1, 1, 0, 0), (9, .iload_n 1, 1, 0, 0), (10, .bipush 49, 2, 49, 0), (12, .if_icmp .ge 15, 3, 27, 0), (15, .aload_n 0, 1, 0, 0), (16, .iload_n 1, 1, 0, 0), (17, .iconst 0, 1, 0, 0), (18, .invokevirtual 109, 3, 113, 2), (21, .iinc 1 1, 3, 1, 0), (24, .goto (-15), 3, 9, 0), (27, .aload_n 0, 1, 0, 0), (28, .iconst 0, 1, 0, 0), (29, .putfield 70, 3, 7, 11)],
  [(32, .aload_n 0, 1, 0, 0), (33, .iconst 0, 1, 0, 0), (34, .putfield 86, 3, 7, 15), (37, .aload_n 0, 1, 0, 0), (38, .invokevirtual 92, 3, 120, 0), (41, .aload_n 0, 1, 0, 0), (42, .bipush 112, 2, 112, 0), (44, .invokevirtual 103, 3, 122, 1), (47, .aload_n 0, 1, 0, 0), (48, .iconst 0, 1, 0, 0), (49, .aload_n 0, 1, 0, 0), (50, .iconst 2, 1, 2, 0), (51, .bipush 6, 2, 6, 0), (53, .bipush 44, 2, 44, 0), (55, .invokevirtual 106, 3, 124, 3), (58, .invokevirtual 109, 3, 113, 2), (61, .aload_n 0, 1, 0, 0), (62, .iconst 1, 1, 1, 0), (63, .aload_n 0, 1, 0, 0)],
  [(64, .iconst 0, 1, 0, 0), (65, .iconst 3, 1, 3, 0), (66, .bipush 44, 2, 44, 0), (68, .invokevirtual 106, 3, 124, 3), (71, .invokevirtual 109, 3, 113, 2), (74, .aload_n 0, 1, 0, 0), (75, .iconst 2, 1, 2, 0), (76, .aload_n 0, 1, 0, 0), (77, .iconst 0, 1, 0, 0), (78, .iconst 2, 1, 2, 0), (79, .bipush 59, 2, 59, 0), (81, .invokevirtual 106, 3, 124, 3), (84, .invokevirtual 109, 3, 113, 2), (87, .aload_n 0, 1, 0, 0), (88, .getfield 86, 3, 7, 15), (91, .ifCond .ne 19, 3, 110, 0), (94, .aload_n 0, 1, 0, 0), (95, .getfield 83, 3, 7, 13)],
  [(98, .bipush 103, 2, 103, 0), (100, .if_icmp .ne 10, 3, 110, 0), (103, .aload_n 0, 1, 0, 0), (104, .invokevirtual 116, 3, 125, 0), (107, .goto (-20), 3, 87, 0), (110, .aload_n 0, 1, 0, 0), (111, .getfield 86, 3, 7, 15), (114, .ifCond .ne 17, 3, 131, 0), (117, .aload_n 0, 1, 0, 0), (118, .getfield 83, 3, 7, 13), (121, .ifCond .eq 10, 3, 131, 0), (124, .aload_n 0, 1, 0, 0), (125, .invokevirtual 119, 3, 127, 0)],
  [(128, .goto (-18), 3, 110, 0), (131, .aload_n 0, 1, 0, 0), (132, .iconst 0, 1, 0, 0), (133, .putfield 63, 3, 7, 5), (136, .aload_n 0, 1, 0, 0), (137, .iconst 0, 1, 0, 0), (138, .putfield 39, 3, 7, 10), (141, .aload_n 0, 1, 0, 0), (142, .getfield 86, 3, 7, 15), (145, .ifCond .eq 19, 3, 164, 0), (148, .aload_n 0, 1, 0, 0), (149, .aload_n 0, 1, 0, 0), (150, .getfield 86, 3, 7, 15), (153, .putfield 122, 3, 7, 17), (156, .ldc 125, 2, 1000100, 1), (158, .aload_n 0, 1, 0, 0), (159, .getfield 89, 3, 7, 16)],
  [(162, .isub, 1, 0, 0), (163, .ireturn, 1, 0, 0), (164, .aload_n 0, 1, 0, 0), (165, .iconst 3, 1, 3, 0), (166, .iconst 0, 1, 0, 0), (167, .invokevirtual 126, 3, 114, 2), (170, .aload_n 0, 1, 0, 0), (171, .iconst 0, 1, 0, 0), (172, .putfield 129, 3, 7, 8), (175, .aload_n 0, 1, 0, 0), (176, .getfield 19, 3, 7, 4), (179, .iconst 0, 1, 0, 0), (180, .iaload, 1, 0, 0), (181, .ireturn, 1, 0, 0)]]
def tm_k129 : List (List tm_E) := [[(0, .aload_n 0, 1, 0, 0), (1, .getfield 122, 3, 7, 17), (4, .ireturn, 1, 0, 0)]]
def tm_k130 : List (List tm_E) := [[(0, .iconst 1, 1, 1, 0), (1, .iload_n 1, 1, 0, 0), (2, .ishl, 1, 0, 0), (3, .istore_n 3, 1, 0, 0), (4, .iconst 0, 1, 0, 0), (5, .istore 4, 2, 0, 0), (7, .iload 4, 2, 0, 0), (9, .bipush 6, 2, 6, 0), (11, .if_icmp .ge 85, 3, 96, 0), (14, .iconst 0, 1, 0, 0), (15, .istore 5, 2, 0, 0), (17, .iload 5, 2, 0, 0), (19, .aload_n 0, 1, 0, 0), (20, .iconst 3, 1, 3, 0), (21, .invokevirtual 66, 3, 112, 1), (24, .if_icmp .ge 66, 3, 90, 0), (27, .iconst 1, 1, 1, 0), (28, .aload_n 0, 1, 0, 0), (29, .bipush 8, 2, 8, 0), (31, .iconst 2, 1, 2, 0)],
  [(32, .iload 5, 2, 0, 0), (34, .imul, 1, 0, 0), (35, .iadd, 1, 0, 0), (36, .invokevirtual 66, 3, 112, 1), (39, .ishl, 1, 0, 0), (40, .iconst 1, 1, 1, 0), (41, .aload_n 0, 1, 0, 0), (42, .bipush 8, 2, 8, 0), (44, .iconst 2, 1, 2, 0), (45, .iload 5, 2, 0, 0), (47, .imul, 1, 0, 0), (48, .iadd, 1, 0, 0), (49, .iconst 1, 1, 1, 0), (50, .iadd, 1, 0, 0), (51, .invokevirtual 66, 3, 112, 1), (54, .ishl, 1, 0, 0), (55, .ior, 1, 0, 0), (56, .istore 6, 2, 0, 0), (58, .iload_n 3, 1, 0, 0), (59, .iload_n 2, 1, 0, 0), (60, .iload 5, 2, 0, 0), (62, .ishr, 1, 0, 0), (63, .iconst 1, 1, 1, 0)],
  [(64, .iand, 1, 0, 0), (65, .iconst 1, 1, 1, 0), (66, .if_icmp .ne 15, 3, 81, 0), (69, .iload_n 3, 1, 0, 0), (70, .iload 6, 2, 0, 0), (72, .iand, 1, 0, 0), (73, .ifCond .eq 8, 3, 81, 0), (76, .iload 6, 2, 0, 0), (78, .goto 4, 3, 82, 0), (81, .iconst 0, 1, 0, 0), (82, .ior, 1, 0, 0), (83, .istore_n 3, 1, 0, 0), (84, .iinc 5 1, 3, 1, 0), (87, .goto (-70), 3, 17, 0), (90, .iinc 4 1, 3, 1, 0), (93, .goto (-86), 3, 7, 0)],
  [(96, .iload_n 3, 1, 0, 0), (97, .ireturn, 1, 0, 0)]]
def tm_k131 : List (List tm_E) := [[(0, .iconst 1, 1, 1, 0), (1, .aload_n 0, 1, 0, 0), (2, .bipush 8, 2, 8, 0), (4, .iconst 2, 1, 2, 0), (5, .iload_n 2, 1, 0, 0), (6, .imul, 1, 0, 0), (7, .iadd, 1, 0, 0), (8, .invokevirtual 66, 3, 112, 1), (11, .ishl, 1, 0, 0), (12, .iconst 1, 1, 1, 0), (13, .aload_n 0, 1, 0, 0), (14, .bipush 8, 2, 8, 0), (16, .iconst 2, 1, 2, 0), (17, .iload_n 2, 1, 0, 0), (18, .imul, 1, 0, 0), (19, .iadd, 1, 0, 0), (20, .iconst 1, 1, 1, 0), (21, .iadd, 1, 0, 0), (22, .invokevirtual 66, 3, 112, 1), (25, .ishl, 1, 0, 0), (26, .ior, 1, 0, 0), (27, .istore 4, 2, 0, 0), (29, .iconst 1, 1, 1, 0), (30, .iload_n 1, 1, 0, 0), (31, .ishl, 1, 0, 0)],
  [(32, .istore 5, 2, 0, 0), (34, .iconst 0, 1, 0, 0), (35, .istore 6, 2, 0, 0), (37, .iload 6, 2, 0, 0), (39, .bipush 6, 2, 6, 0), (41, .if_icmp .ge 107, 3, 148, 0), (44, .iload 5, 2, 0, 0), (46, .iload 4, 2, 0, 0), (48, .iand, 1, 0, 0), (49, .ifCond .eq 6, 3, 55, 0), (52, .iload 6, 2, 0, 0), (54, .ireturn, 1, 0, 0), (55, .iload 5, 2, 0, 0), (57, .istore 7, 2, 0, 0), (59, .iconst 0, 1, 0, 0), (60, .istore 8, 2, 0, 0), (62, .iload 8, 2, 0, 0)],
  [(64, .aload_n 0, 1, 0, 0), (65, .iconst 3, 1, 3, 0), (66, .invokevirtual 66, 3, 112, 1), (69, .if_icmp .ge 69, 3, 138, 0), (72, .iconst 1, 1, 1, 0), (73, .aload_n 0, 1, 0, 0), (74, .bipush 8, 2, 8, 0), (76, .iconst 2, 1, 2, 0), (77, .iload 8, 2, 0, 0), (79, .imul, 1, 0, 0), (80, .iadd, 1, 0, 0), (81, .invokevirtual 66, 3, 112, 1), (84, .ishl, 1, 0, 0), (85, .iconst 1, 1, 1, 0), (86, .aload_n 0, 1, 0, 0), (87, .bipush 8, 2, 8, 0), (89, .iconst 2, 1, 2, 0), (90, .iload 8, 2, 0, 0), (92, .imul, 1, 0, 0), (93, .iadd, 1, 0, 0), (94, .iconst 1, 1, 1, 0), (95, .iadd, 1, 0, 0)],
  [(96, .invokevirtual 66, 3, 112, 1), (99, .ishl, 1, 0, 0), (100, .ior, 1, 0, 0), (101, .istore 9, 2, 0, 0), (103, .iload 7, 2, 0, 0), (105, .iload_n 3, 1, 0, 0), (106, .iload 8, 2, 0, 0), (108, .ishr, 1, 0, 0), (109, .iconst 1, 1, 1, 0), (110, .iand, 1, 0, 0), (111, .iconst 1, 1, 1, 0), (112, .if_icmp .ne 16, 3, 128, 0), (115, .iload 5, 2, 0, 0), (117, .iload 9, 2, 0, 0), (119, .iand, 1, 0, 0), (120, .ifCond .eq 8, 3, 128, 0), (123, .iload 9, 2, 0, 0), (125, .goto 4, 3, 129, 0)],
  [(128, .iconst 0, 1, 0, 0), (129, .ior, 1, 0, 0), (130, .istore 7, 2, 0, 0), (132, .iinc 8 1, 3, 1, 0), (135, .goto (-73), 3, 62, 0), (138, .iload 7, 2, 0, 0), (140, .istore 5, 2, 0, 0), (142, .iinc 6 1, 3, 1, 0), (145, .goto (-108), 3, 37, 0), (148, .ldc 132, 2, 1000000, 1), (150, .ireturn, 1, 0, 0)]]
def tm_k132 : List (List tm_E) := [[(0, .iconst 1, 1, 1, 0), (1, .istore_n 3, 1, 0, 0), (2, .iconst 0, 1, 0, 0), (3, .istore 4, 2, 0, 0), (5, .iload 4, 2, 0, 0), (7, .aload_n 0, 1, 0, 0), (8, .iconst 3, 1, 3, 0), (9, .invokevirtual 66, 3, 112, 1), (12, .if_icmp .ge 83, 3, 95, 0), (15, .aload_n 0, 1, 0, 0), (16, .bipush 8, 2, 8, 0), (18, .iconst 2, 1, 2, 0), (19, .iload 4, 2, 0, 0), (21, .imul, 1, 0, 0), (22, .iadd, 1, 0, 0), (23, .invokevirtual 66, 3, 112, 1), (26, .aload_n 0, 1, 0, 0), (27, .iload_n 1, 1, 0, 0), (28, .iconst 1, 1, 1, 0), (29, .invokevirtual 133, 3, 117, 2)],
  [(32, .if_icmp .eq 25, 3, 57, 0), (35, .aload_n 0, 1, 0, 0), (36, .bipush 8, 2, 8, 0), (38, .iconst 2, 1, 2, 0), (39, .iload 4, 2, 0, 0), (41, .imul, 1, 0, 0), (42, .iadd, 1, 0, 0), (43, .iconst 1, 1, 1, 0), (44, .iadd, 1, 0, 0), (45, .invokevirtual 66, 3, 112, 1), (48, .aload_n 0, 1, 0, 0), (49, .iload_n 1, 1, 0, 0), (50, .iconst 1, 1, 1, 0), (51, .invokevirtual 133, 3, 117, 2), (54, .if_icmp .ne 7, 3, 61, 0), (57, .iconst 1, 1, 1, 0), (58, .goto 4, 3, 62, 0), (61, .iconst 0, 1, 0, 0), (62, .istore 5, 2, 0, 0)],
  [(64, .iload_n 3, 1, 0, 0), (65, .ifCond .eq 22, 3, 87, 0), (68, .iload 5, 2, 0, 0), (70, .ifCond .eq 13, 3, 83, 0), (73, .iload_n 2, 1, 0, 0), (74, .iload 4, 2, 0, 0), (76, .ishr, 1, 0, 0), (77, .iconst 1, 1, 1, 0), (78, .iand, 1, 0, 0), (79, .iconst 1, 1, 1, 0), (80, .if_icmp .eq 7, 3, 87, 0), (83, .iconst 1, 1, 1, 0), (84, .goto 4, 3, 88, 0), (87, .iconst 0, 1, 0, 0), (88, .istore_n 3, 1, 0, 0), (89, .iinc 4 1, 3, 1, 0), (92, .goto (-87), 3, 5, 0), (95, .iload_n 3, 1, 0, 0)],
  [(96, .ireturn, 1, 0, 0)]]
def tm_k133 : List (List tm_E) := [[(0, .iconst 0, 1, 0, 0), (1, .istore_n 2, 1, 0, 0), (2, .iconst 0, 1, 0, 0), (3, .istore_n 3, 1, 0, 0), (4, .iload_n 3, 1, 0, 0), (5, .aload_n 0, 1, 0, 0), (6, .iconst 4, 1, 4, 0), (7, .invokevirtual 66, 3, 112, 1), (10, .if_icmp .ge 28, 3, 38, 0), (13, .iload_n 2, 1, 0, 0), (14, .aload_n 0, 1, 0, 0), (15, .iload_n 3, 1, 0, 0), (16, .iload_n 1, 1, 0, 0), (17, .invokevirtual 137, 3, 132, 2), (20, .ifCond .eq 9, 3, 29, 0), (23, .iconst 1, 1, 1, 0), (24, .iload_n 3, 1, 0, 0), (25, .ishl, 1, 0, 0), (26, .goto 4, 3, 30, 0), (29, .iconst 0, 1, 0, 0), (30, .ior, 1, 0, 0), (31, .istore_n 2, 1, 0, 0)],
  [(32, .iinc 3 1, 3, 1, 0), (35, .goto (-31), 3, 4, 0), (38, .iload_n 2, 1, 0, 0), (39, .ireturn, 1, 0, 0)]]
def tm_k134 : List (List tm_E) := [[(0, .iconst 0, 1, 0, 0), (1, .istore_n 2, 1, 0, 0), (2, .iconst 0, 1, 0, 0), (3, .istore_n 3, 1, 0, 0), (4, .iload_n 3, 1, 0, 0), (5, .aload_n 0, 1, 0, 0), (6, .iconst 4, 1, 4, 0), (7, .invokevirtual 66, 3, 112, 1), (10, .if_icmp .ge 34, 3, 44, 0), (13, .iload_n 2, 1, 0, 0), (14, .aload_n 0, 1, 0, 0), (15, .aload_n 0, 1, 0, 0), (16, .iload_n 3, 1, 0, 0), (17, .iconst 1, 1, 1, 0), (18, .invokevirtual 133, 3, 117, 2), (21, .iload_n 1, 1, 0, 0), (22, .invokevirtual 141, 3, 130, 2), (25, .aload_n 0, 1, 0, 0), (26, .iload_n 3, 1, 0, 0), (27, .iconst 2, 1, 2, 0), (28, .invokevirtual 133, 3, 117, 2), (31, .ishr, 1, 0, 0)],
  [(32, .iconst 1, 1, 1, 0), (33, .iand, 1, 0, 0), (34, .iload_n 3, 1, 0, 0), (35, .ishl, 1, 0, 0), (36, .ior, 1, 0, 0), (37, .istore_n 2, 1, 0, 0), (38, .iinc 3 1, 3, 1, 0), (41, .goto (-37), 3, 4, 0), (44, .iload_n 2, 1, 0, 0), (45, .ireturn, 1, 0, 0)]]
def tm_k135 : List (List tm_E) := [[(0, .aload_n 0, 1, 0, 0), (1, .aload_n 0, 1, 0, 0), (2, .bipush 6, 2, 6, 0), (4, .invokevirtual 66, 3, 112, 1), (7, .putfield 144, 3, 7, 18), (10, .aload_n 0, 1, 0, 0), (11, .aload_n 0, 1, 0, 0), (12, .bipush 7, 2, 7, 0), (14, .invokevirtual 66, 3, 112, 1), (17, .putfield 147, 3, 7, 19), (20, .aload_n 0, 1, 0, 0), (21, .aload_n 0, 1, 0, 0), (22, .iconst 1, 1, 1, 0), (23, .invokevirtual 66, 3, 112, 1), (26, .putfield 150, 3, 7, 21), (29, .aload_n 0, 1, 0, 0), (30, .aload_n 0, 1, 0, 0), (31, .iconst 2, 1, 2, 0)],
  [(32, .invokevirtual 66, 3, 112, 1), (35, .putfield 153, 3, 7, 22), (38, .iconst 0, 1, 0, 0), (39, .istore_n 1, 1, 0, 0), (40, .iload_n 1, 1, 0, 0), (41, .aload_n 0, 1, 0, 0), (42, .iconst 4, 1, 4, 0), (43, .invokevirtual 66, 3, 112, 1), (46, .if_icmp .ge 21, 3, 67, 0), (49, .aload_n 0, 1, 0, 0), (50, .getfield 33, 3, 7, 20), (53, .iload_n 1, 1, 0, 0), (54, .aload_n 0, 1, 0, 0), (55, .iload_n 1, 1, 0, 0), (56, .iconst 3, 1, 3, 0), (57, .invokevirtual 133, 3, 117, 2), (60, .iastore, 1, 0, 0), (61, .iinc 1 1, 3, 1, 0)],
  [(64, .goto (-24), 3, 40, 0), (67, .return_, 1, 0, 0)]]
def tm_k136 : List (List tm_E) := [[(0, .aload_n 0, 1, 0, 0), (1, .aload_n 0, 1, 0, 0), (2, .iload_n 1, 1, 0, 0), (3, .iconst 1, 1, 1, 0), (4, .invokevirtual 133, 3, 117, 2), (7, .iload_n 2, 1, 0, 0), (8, .aload_n 0, 1, 0, 0), (9, .getfield 144, 3, 7, 18), (12, .invokevirtual 156, 3, 131, 3), (15, .iconst 0, 1, 0, 0), (16, .aload_n 0, 1, 0, 0), (17, .getfield 150, 3, 7, 21), (20, .invokestatic 47, 3, 103, 3), (23, .ireturn, 1, 0, 0)]]
def tm_k137 : List (List tm_E) := [[(0, .aload_n 0, 1, 0, 0), (1, .iload_n 1, 1, 0, 0), (2, .iconst 0, 1, 0, 0), (3, .invokevirtual 133, 3, 117, 2), (6, .istore_n 3, 1, 0, 0), (7, .iload_n 3, 1, 0, 0), (8, .iconst 5, 1, 5, 0), (9, .if_icmp .ne 5, 3, 14, 0), (12, .iconst 0, 1, 0, 0), (13, .ireturn, 1, 0, 0), (14, .aload_n 0, 1, 0, 0), (15, .iload_n 1, 1, 0, 0), (16, .iload_n 2, 1, 0, 0), (17, .invokevirtual 159, 3, 136, 2), (20, .ifCond .eq 39, 3, 59, 0), (23, .aload_n 0, 1, 0, 0), (24, .iload_n 1, 1, 0, 0), (25, .iconst 4, 1, 4, 0), (26, .invokevirtual 133, 3, 117, 2), (29, .aload_n 0, 1, 0, 0), (30, .aload_n 0, 1, 0, 0), (31, .iload_n 1, 1, 0, 0)],
  [(32, .iconst 1, 1, 1, 0), (33, .invokevirtual 133, 3, 117, 2), (36, .iload_n 2, 1, 0, 0), (37, .aload_n 0, 1, 0, 0), (38, .getfield 144, 3, 7, 18), (41, .invokevirtual 156, 3, 131, 3), (44, .isub, 1, 0, 0), (45, .istore 4, 2, 0, 0), (47, .iload 4, 2, 0, 0), (49, .ifCond .ge 7, 3, 56, 0), (52, .iconst 0, 1, 0, 0), (53, .goto 5, 3, 58, 0), (56, .iload 4, 2, 0, 0), (58, .ireturn, 1, 0, 0), (59, .iload_n 3, 1, 0, 0), (60, .iconst 2, 1, 2, 0), (61, .if_icmp .ne 19, 3, 80, 0)],
  [(64, .aload_n 0, 1, 0, 0), (65, .iload_n 1, 1, 0, 0), (66, .aload_n 0, 1, 0, 0), (67, .getfield 144, 3, 7, 18), (70, .invokevirtual 137, 3, 132, 2), (73, .ifCond .eq 7, 3, 80, 0), (76, .iconst 1, 1, 1, 0), (77, .goto 4, 3, 81, 0), (80, .iconst 0, 1, 0, 0), (81, .ireturn, 1, 0, 0)]]
def tm_k138 : List (List tm_E) := [[(0, .aload_n 0, 1, 0, 0), (1, .iload_n 1, 1, 0, 0), (2, .iconst 0, 1, 0, 0), (3, .invokevirtual 133, 3, 117, 2), (6, .iconst 3, 1, 3, 0), (7, .if_icmp .ne 23, 3, 30, 0), (10, .aload_n 0, 1, 0, 0), (11, .getfield 144, 3, 7, 18), (14, .iload_n 2, 1, 0, 0), (15, .ishr, 1, 0, 0), (16, .iconst 1, 1, 1, 0), (17, .iand, 1, 0, 0), (18, .iconst 1, 1, 1, 0), (19, .if_icmp .ne 7, 3, 26, 0), (22, .iconst 1, 1, 1, 0), (23, .goto 26, 3, 49, 0), (26, .iconst 0, 1, 0, 0), (27, .goto 22, 3, 49, 0), (30, .aload_n 0, 1, 0, 0), (31, .getfield 33, 3, 7, 20)],
  [(34, .iload_n 1, 1, 0, 0), (35, .iaload, 1, 0, 0), (36, .iload_n 2, 1, 0, 0), (37, .ishr, 1, 0, 0), (38, .iconst 1, 1, 1, 0), (39, .iand, 1, 0, 0), (40, .iconst 1, 1, 1, 0), (41, .if_icmp .ne 7, 3, 48, 0), (44, .iconst 1, 1, 1, 0), (45, .goto 4, 3, 49, 0), (48, .iconst 0, 1, 0, 0), (49, .ireturn, 1, 0, 0)]]
def tm_k139 : List (List tm_E) := [[(0, .iconst 0, 1, 0, 0), (1, .istore_n 3, 1, 0, 0), (2, .iconst 0, 1, 0, 0), (3, .istore 4, 2, 0, 0), (5, .iload 4, 2, 0, 0), (7, .aload_n 0, 1, 0, 0), (8, .iconst 4, 1, 4, 0), (9, .invokevirtual 66, 3, 112, 1), (12, .if_icmp .ge 34, 3, 46, 0), (15, .iload_n 3, 1, 0, 0), (16, .aload_n 0, 1, 0, 0), (17, .iload 4, 2, 0, 0), (19, .iload_n 1, 1, 0, 0), (20, .invokevirtual 162, 3, 138, 2), (23, .iload_n 2, 1, 0, 0), (24, .if_icmp .ne 13, 3, 37, 0), (27, .aload_n 0, 1, 0, 0), (28, .iload 4, 2, 0, 0), (30, .iload_n 1, 1, 0, 0), (31, .invokevirtual 165, 3, 137, 2)],
  [(34, .goto 4, 3, 38, 0), (37, .iconst 0, 1, 0, 0), (38, .iadd, 1, 0, 0), (39, .istore_n 3, 1, 0, 0), (40, .iinc 4 1, 3, 1, 0), (43, .goto (-38), 3, 5, 0), (46, .iload_n 3, 1, 0, 0), (47, .ireturn, 1, 0, 0)]]
def tm_k140 : List (List tm_E) := [[(0, .iconst 0, 1, 0, 0), (1, .istore_n 1, 1, 0, 0), (2, .aload_n 0, 1, 0, 0), (3, .getfield 147, 3, 7, 19), (6, .istore_n 2, 1, 0, 0), (7, .iconst 0, 1, 0, 0), (8, .istore_n 3, 1, 0, 0), (9, .iload_n 3, 1, 0, 0), (10, .aload_n 0, 1, 0, 0), (11, .iconst 3, 1, 3, 0), (12, .invokevirtual 66, 3, 112, 1), (15, .if_icmp .ge 165, 3, 180, 0), (18, .aload_n 0, 1, 0, 0), (19, .iload_n 3, 1, 0, 0), (20, .iconst 1, 1, 1, 0), (21, .invokevirtual 168, 3, 139, 2), (24, .aload_n 0, 1, 0, 0), (25, .iload_n 3, 1, 0, 0), (26, .iconst 0, 1, 0, 0), (27, .invokevirtual 168, 3, 139, 2), (30, .isub, 1, 0, 0), (31, .istore 4, 2, 0, 0)],
  [(33, .iload 4, 2, 0, 0), (35, .ifCond .le 7, 3, 42, 0), (38, .iconst 1, 1, 1, 0), (39, .goto 35, 3, 74, 0), (42, .iload 4, 2, 0, 0), (44, .ifCond .ge 7, 3, 51, 0), (47, .iconst 0, 1, 0, 0), (48, .goto 26, 3, 74, 0), (51, .aload_n 0, 1, 0, 0), (52, .getfield 153, 3, 7, 22), (55, .iconst 2, 1, 2, 0), (56, .if_icmp .ne 14, 3, 70, 0), (59, .aload_n 0, 1, 0, 0), (60, .getfield 144, 3, 7, 18), (63, .iload_n 3, 1, 0, 0)],
  [(64, .ishr, 1, 0, 0), (65, .iconst 1, 1, 1, 0), (66, .iand, 1, 0, 0), (67, .goto 7, 3, 74, 0), (70, .aload_n 0, 1, 0, 0), (71, .getfield 153, 3, 7, 22), (74, .istore 5, 2, 0, 0), (76, .iconst 0, 1, 0, 0), (77, .istore 6, 2, 0, 0), (79, .iload 6, 2, 0, 0), (81, .aload_n 0, 1, 0, 0), (82, .iconst 4, 1, 4, 0), (83, .invokevirtual 66, 3, 112, 1), (86, .if_icmp .ge 81, 3, 167, 0), (89, .iload 5, 2, 0, 0), (91, .iconst 1, 1, 1, 0), (92, .if_icmp .ne 75, 3, 167, 0), (95, .aload_n 0, 1, 0, 0)],
  [(96, .iload 6, 2, 0, 0), (98, .iconst 0, 1, 0, 0), (99, .invokevirtual 133, 3, 117, 2), (102, .iconst 4, 1, 4, 0), (103, .if_icmp .ne 16, 3, 119, 0), (106, .iload_n 2, 1, 0, 0), (107, .iload 6, 2, 0, 0), (109, .ishr, 1, 0, 0), (110, .iconst 1, 1, 1, 0), (111, .iand, 1, 0, 0), (112, .ifCond .ne 7, 3, 119, 0), (115, .iconst 1, 1, 1, 0), (116, .goto 4, 3, 120, 0), (119, .iconst 0, 1, 0, 0), (120, .istore 7, 2, 0, 0), (122, .iload 7, 2, 0, 0), (124, .ifCond .eq 37, 3, 161, 0), (127, .aload_n 0, 1, 0, 0)],
  [(128, .getfield 33, 3, 7, 20), (131, .iload 6, 2, 0, 0), (133, .iaload, 1, 0, 0), (134, .iload_n 3, 1, 0, 0), (135, .ishr, 1, 0, 0), (136, .iconst 1, 1, 1, 0), (137, .iand, 1, 0, 0), (138, .ifCond .ne 23, 3, 161, 0), (141, .aload_n 0, 1, 0, 0), (142, .iload 6, 2, 0, 0), (144, .iload_n 3, 1, 0, 0), (145, .invokevirtual 159, 3, 136, 2), (148, .ifCond .eq 13, 3, 161, 0), (151, .iload_n 2, 1, 0, 0), (152, .iconst 1, 1, 1, 0), (153, .iload 6, 2, 0, 0), (155, .ishl, 1, 0, 0), (156, .ior, 1, 0, 0), (157, .istore_n 2, 1, 0, 0), (158, .iconst 0, 1, 0, 0), (159, .istore 5, 2, 0, 0)],
  [(161, .iinc 6 1, 3, 1, 0), (164, .goto (-85), 3, 79, 0), (167, .iload_n 1, 1, 0, 0), (168, .iload 5, 2, 0, 0), (170, .iload_n 3, 1, 0, 0), (171, .ishl, 1, 0, 0), (172, .ior, 1, 0, 0), (173, .istore_n 1, 1, 0, 0), (174, .iinc 3 1, 3, 1, 0), (177, .goto (-168), 3, 9, 0), (180, .aload_n 0, 1, 0, 0), (181, .iload_n 1, 1, 0, 0), (182, .putfield 144, 3, 7, 18), (185, .aload_n 0, 1, 0, 0), (186, .iload_n 2, 1, 0, 0), (187, .putfield 147, 3, 7, 19), (190, .return_, 1, 0, 0)]]
def tm_k141 : List (List tm_E) := [[(0, .iconst 0, 1, 0, 0), (1, .istore_n 2, 1, 0, 0), (2, .iload_n 2, 1, 0, 0), (3, .iload_n 1, 1, 0, 0), (4, .if_icmp .ge 13, 3, 17, 0), (7, .aload_n 0, 1, 0, 0), (8, .invokevirtual 172, 3, 140, 0), (11, .iinc 2 1, 3, 1, 0), (14, .goto (-12), 3, 2, 0), (17, .return_, 1, 0, 0)]]
def tm_k142 : List (List tm_E) := [[(0, .aload_n 0, 1, 0, 0), (1, .getfield 129, 3, 7, 8), (4, .bipush 24, 2, 24, 0), (6, .if_icmp .ne 41, 3, 47, 0), (9, .iconst 0, 1, 0, 0), (10, .istore_n 2, 1, 0, 0), (11, .iload_n 2, 1, 0, 0), (12, .bipush 115, 2, 115, 0), (14, .if_icmp .ge 23, 3, 37, 0), (17, .aload_n 0, 1, 0, 0), (18, .getfield 26, 3, 7, 7), (21, .iload_n 2, 1, 0, 0), (22, .aload_n 0, 1, 0, 0), (23, .getfield 26, 3, 7, 7), (26, .iconst 5, 1, 5, 0), (27, .iload_n 2, 1, 0, 0), (28, .iadd, 1, 0, 0), (29, .iaload, 1, 0, 0), (30, .iastore, 1, 0, 0), (31, .iinc 2 1, 3, 1, 0)],
  [(34, .goto (-23), 3, 11, 0), (37, .aload_n 0, 1, 0, 0), (38, .dup, 1, 0, 0), (39, .getfield 129, 3, 7, 8), (42, .iconst 1, 1, 1, 0), (43, .isub, 1, 0, 0), (44, .putfield 129, 3, 7, 8), (47, .aload_n 0, 1, 0, 0), (48, .getfield 26, 3, 7, 7), (51, .iconst 5, 1, 5, 0), (52, .aload_n 0, 1, 0, 0), (53, .getfield 129, 3, 7, 8), (56, .imul, 1, 0, 0), (57, .aload_n 0, 1, 0, 0), (58, .bipush 6, 2, 6, 0), (60, .invokevirtual 66, 3, 112, 1), (63, .iastore, 1, 0, 0)],
  [(64, .aload_n 0, 1, 0, 0), (65, .getfield 26, 3, 7, 7), (68, .iconst 5, 1, 5, 0), (69, .aload_n 0, 1, 0, 0), (70, .getfield 129, 3, 7, 8), (73, .imul, 1, 0, 0), (74, .iconst 1, 1, 1, 0), (75, .iadd, 1, 0, 0), (76, .aload_n 0, 1, 0, 0), (77, .bipush 7, 2, 7, 0), (79, .invokevirtual 66, 3, 112, 1), (82, .iastore, 1, 0, 0), (83, .aload_n 0, 1, 0, 0), (84, .getfield 26, 3, 7, 7), (87, .iconst 5, 1, 5, 0), (88, .aload_n 0, 1, 0, 0), (89, .getfield 129, 3, 7, 8), (92, .imul, 1, 0, 0), (93, .iconst 2, 1, 2, 0), (94, .iadd, 1, 0, 0), (95, .aload_n 0, 1, 0, 0)],
  [(96, .iconst 5, 1, 5, 0), (97, .invokevirtual 66, 3, 112, 1), (100, .iastore, 1, 0, 0), (101, .aload_n 0, 1, 0, 0), (102, .getfield 26, 3, 7, 7), (105, .iconst 5, 1, 5, 0), (106, .aload_n 0, 1, 0, 0), (107, .getfield 129, 3, 7, 8), (110, .imul, 1, 0, 0), (111, .iconst 3, 1, 3, 0), (112, .iadd, 1, 0, 0), (113, .iload_n 1, 1, 0, 0), (114, .iastore, 1, 0, 0), (115, .aload_n 0, 1, 0, 0), (116, .getfield 26, 3, 7, 7), (119, .iconst 5, 1, 5, 0), (120, .aload_n 0, 1, 0, 0), (121, .getfield 129, 3, 7, 8), (124, .imul, 1, 0, 0), (125, .iconst 4, 1, 4, 0), (126, .iadd, 1, 0, 0), (127, .iload_n 1, 1, 0, 0)],
  [(128, .ldc 132, 2, 1000000, 1), (130, .if_icmp .ne 7, 3, 137, 0), (133, .iconst 0, 1, 0, 0), (134, .goto 9, 3, 143, 0), (137, .aload_n 0, 1, 0, 0), (138, .iload_n 1, 1, 0, 0), (139, .iconst 3, 1, 3, 0), (140, .invokevirtual 133, 3, 117, 2), (143, .iastore, 1, 0, 0), (144, .aload_n 0, 1, 0, 0), (145, .dup, 1, 0, 0), (146, .getfield 129, 3, 7, 8), (149, .iconst 1, 1, 1, 0), (150, .iadd, 1, 0, 0), (151, .putfield 129, 3, 7, 8), (154, .return_, 1, 0, 0)]]
def tm_k143 : List (List tm_E) := [[(0, .aload_n 0, 1, 0, 0), (1, .iconst 0, 1, 0, 0), (2, .invokevirtual 66, 3, 112, 1), (5, .ifCond .le 7, 3, 12, 0), (8, .iconst 1, 1, 1, 0), (9, .goto 4, 3, 13, 0), (12, .iconst 0, 1, 0, 0), (13, .ireturn, 1, 0, 0)]]
def tm_k144 : List (List tm_E) := [[(0, .aload_n 0, 1, 0, 0), (1, .invokevirtual 175, 3, 143, 0), (4, .ifCond .ne 6, 3, 10, 0), (7, .ldc 179, 2, 1000002, 1), (9, .ireturn, 1, 0, 0), (10, .iload_n 1, 1, 0, 0), (11, .iconst 1, 1, 1, 0), (12, .bipush 20, 2, 20, 0), (14, .invokestatic 47, 3, 103, 3), (17, .ifCond .ne 6, 3, 23, 0), (20, .ldc 55, 2, 1000001, 1), (22, .ireturn, 1, 0, 0), (23, .aload_n 0, 1, 0, 0), (24, .iconst 5, 1, 5, 0), (25, .invokevirtual 66, 3, 112, 1), (28, .iload_n 1, 1, 0, 0), (29, .iadd, 1, 0, 0), (30, .sipush 999, 3, 999, 0)],
  [(33, .if_icmp .le 6, 3, 39, 0), (36, .ldc 69, 2, 1000003, 1), (38, .ireturn, 1, 0, 0), (39, .iconst 0, 1, 0, 0), (40, .istore_n 2, 1, 0, 0), (41, .iload_n 2, 1, 0, 0), (42, .iload_n 1, 1, 0, 0), (43, .if_icmp .ge 55, 3, 98, 0), (46, .aload_n 0, 1, 0, 0), (47, .ldc 132, 2, 1000000, 1), (49, .invokevirtual 180, 3, 142, 1), (52, .aload_n 0, 1, 0, 0), (53, .invokevirtual 183, 3, 135, 0), (56, .aload_n 0, 1, 0, 0), (57, .invokevirtual 172, 3, 140, 0), (60, .aload_n 0, 1, 0, 0), (61, .bipush 6, 2, 6, 0), (63, .aload_n 0, 1, 0, 0)],
  [(64, .getfield 144, 3, 7, 18), (67, .invokevirtual 109, 3, 113, 2), (70, .aload_n 0, 1, 0, 0), (71, .bipush 7, 2, 7, 0), (73, .aload_n 0, 1, 0, 0), (74, .getfield 147, 3, 7, 19), (77, .invokevirtual 109, 3, 113, 2), (80, .aload_n 0, 1, 0, 0), (81, .iconst 5, 1, 5, 0), (82, .aload_n 0, 1, 0, 0), (83, .iconst 5, 1, 5, 0), (84, .invokevirtual 66, 3, 112, 1), (87, .iconst 1, 1, 1, 0), (88, .iadd, 1, 0, 0), (89, .invokevirtual 109, 3, 113, 2), (92, .iinc 2 1, 3, 1, 0), (95, .goto (-54), 3, 41, 0)],
  [(98, .aload_n 0, 1, 0, 0), (99, .bipush 6, 2, 6, 0), (101, .invokevirtual 66, 3, 112, 1), (104, .ireturn, 1, 0, 0)]]
def tm_k145 : List (List tm_E) := [[(0, .aload_n 0, 1, 0, 0), (1, .iload_n 1, 1, 0, 0), (2, .invokevirtual 186, 3, 115, 1), (5, .ifCond .ne 6, 3, 11, 0), (8, .ldc 55, 2, 1000001, 1), (10, .ireturn, 1, 0, 0), (11, .aload_n 0, 1, 0, 0), (12, .ldc 132, 2, 1000000, 1), (14, .invokevirtual 180, 3, 142, 1), (17, .aload_n 0, 1, 0, 0), (18, .bipush 6, 2, 6, 0), (20, .aload_n 0, 1, 0, 0), (21, .bipush 6, 2, 6, 0), (23, .invokevirtual 66, 3, 112, 1), (26, .iconst 1, 1, 1, 0), (27, .iload_n 1, 1, 0, 0), (28, .ishl, 1, 0, 0), (29, .ixor, 1, 0, 0), (30, .invokevirtual 109, 3, 113, 2)],
  [(33, .aload_n 0, 1, 0, 0), (34, .bipush 6, 2, 6, 0), (36, .invokevirtual 66, 3, 112, 1), (39, .iload_n 1, 1, 0, 0), (40, .ishr, 1, 0, 0), (41, .iconst 1, 1, 1, 0), (42, .iand, 1, 0, 0), (43, .ireturn, 1, 0, 0)]]
def tm_k146 : List (List tm_E) := [[(0, .iload_n 1, 1, 0, 0), (1, .iconst 0, 1, 0, 0), (2, .iconst 1, 1, 1, 0), (3, .aload_n 0, 1, 0, 0), (4, .iconst 3, 1, 3, 0), (5, .invokevirtual 66, 3, 112, 1), (8, .ishl, 1, 0, 0), (9, .iconst 1, 1, 1, 0), (10, .isub, 1, 0, 0), (11, .invokestatic 47, 3, 103, 3), (14, .ireturn, 1, 0, 0)]]
def tm_k147 : List (List tm_E) := [[(0, .aload_n 0, 1, 0, 0), (1, .iload_n 1, 1, 0, 0), (2, .invokevirtual 189, 3, 116, 1), (5, .ifCond .eq 11, 3, 16, 0), (8, .aload_n 0, 1, 0, 0), (9, .iload_n 2, 1, 0, 0), (10, .invokevirtual 192, 3, 146, 1), (13, .ifCond .ne 6, 3, 19, 0), (16, .ldc 55, 2, 1000001, 1), (18, .ireturn, 1, 0, 0), (19, .aload_n 0, 1, 0, 0), (20, .iload_n 1, 1, 0, 0), (21, .invokevirtual 180, 3, 142, 1), (24, .aload_n 0, 1, 0, 0), (25, .iload_n 1, 1, 0, 0), (26, .iconst 3, 1, 3, 0), (27, .invokevirtual 133, 3, 117, 2), (30, .istore_n 3, 1, 0, 0), (31, .aload_n 0, 1, 0, 0)],
  [(32, .bipush 24, 2, 24, 0), (34, .iconst 5, 1, 5, 0), (35, .iload_n 1, 1, 0, 0), (36, .imul, 1, 0, 0), (37, .iadd, 1, 0, 0), (38, .iconst 3, 1, 3, 0), (39, .iadd, 1, 0, 0), (40, .iload_n 2, 1, 0, 0), (41, .invokevirtual 109, 3, 113, 2), (44, .iload_n 3, 1, 0, 0), (45, .ireturn, 1, 0, 0)]]
def tm_k148 : List (List tm_E) := [[(0, .aload_n 0, 1, 0, 0), (1, .getfield 129, 3, 7, 8), (4, .ifCond .ne 6, 3, 10, 0), (7, .ldc 179, 2, 1000002, 1), (9, .ireturn, 1, 0, 0), (10, .aload_n 0, 1, 0, 0), (11, .dup, 1, 0, 0), (12, .getfield 129, 3, 7, 8), (15, .iconst 1, 1, 1, 0), (16, .isub, 1, 0, 0), (17, .putfield 129, 3, 7, 8), (20, .aload_n 0, 1, 0, 0), (21, .bipush 6, 2, 6, 0), (23, .aload_n 0, 1, 0, 0), (24, .getfield 26, 3, 7, 7), (27, .iconst 5, 1, 5, 0), (28, .aload_n 0, 1, 0, 0), (29, .getfield 129, 3, 7, 8)],
  [(32, .imul, 1, 0, 0), (33, .iaload, 1, 0, 0), (34, .invokevirtual 109, 3, 113, 2), (37, .aload_n 0, 1, 0, 0), (38, .bipush 7, 2, 7, 0), (40, .aload_n 0, 1, 0, 0), (41, .getfield 26, 3, 7, 7), (44, .iconst 5, 1, 5, 0), (45, .aload_n 0, 1, 0, 0), (46, .getfield 129, 3, 7, 8), (49, .imul, 1, 0, 0), (50, .iconst 1, 1, 1, 0), (51, .iadd, 1, 0, 0), (52, .iaload, 1, 0, 0), (53, .invokevirtual 109, 3, 113, 2), (56, .aload_n 0, 1, 0, 0), (57, .iconst 5, 1, 5, 0), (58, .aload_n 0, 1, 0, 0), (59, .getfield 26, 3, 7, 7), (62, .iconst 5, 1, 5, 0), (63, .aload_n 0, 1, 0, 0)],
  [(64, .getfield 129, 3, 7, 8), (67, .imul, 1, 0, 0), (68, .iconst 2, 1, 2, 0), (69, .iadd, 1, 0, 0), (70, .iaload, 1, 0, 0), (71, .invokevirtual 109, 3, 113, 2), (74, .aload_n 0, 1, 0, 0), (75, .getfield 26, 3, 7, 7), (78, .iconst 5, 1, 5, 0), (79, .aload_n 0, 1, 0, 0), (80, .getfield 129, 3, 7, 8), (83, .imul, 1, 0, 0), (84, .iconst 3, 1, 3, 0), (85, .iadd, 1, 0, 0), (86, .iaload, 1, 0, 0), (87, .istore_n 1, 1, 0, 0), (88, .iload_n 1, 1, 0, 0), (89, .ldc 132, 2, 1000000, 1), (91, .if_icmp .eq 28, 3, 119, 0), (94, .aload_n 0, 1, 0, 0), (95, .bipush 24, 2, 24, 0)],
  [(97, .iconst 5, 1, 5, 0), (98, .iload_n 1, 1, 0, 0), (99, .imul, 1, 0, 0), (100, .iadd, 1, 0, 0), (101, .iconst 3, 1, 3, 0), (102, .iadd, 1, 0, 0), (103, .aload_n 0, 1, 0, 0), (104, .getfield 26, 3, 7, 7), (107, .iconst 5, 1, 5, 0), (108, .aload_n 0, 1, 0, 0), (109, .getfield 129, 3, 7, 8), (112, .imul, 1, 0, 0), (113, .iconst 4, 1, 4, 0), (114, .iadd, 1, 0, 0), (115, .iaload, 1, 0, 0), (116, .invokevirtual 109, 3, 113, 2), (119, .aload_n 0, 1, 0, 0), (120, .getfield 129, 3, 7, 8), (123, .ireturn, 1, 0, 0)]]
def tm_k149 : List (List tm_E) := [[(0, .aload_n 0, 1, 0, 0), (1, .iload_n 1, 1, 0, 0), (2, .invokevirtual 189, 3, 116, 1), (5, .ifCond .eq 12, 3, 17, 0), (8, .iload_n 2, 1, 0, 0), (9, .iconst 0, 1, 0, 0), (10, .iconst 4, 1, 4, 0), (11, .invokestatic 47, 3, 103, 3), (14, .ifCond .ne 6, 3, 20, 0), (17, .ldc 55, 2, 1000001, 1), (19, .ireturn, 1, 0, 0), (20, .iload_n 2, 1, 0, 0), (21, .iconst 4, 1, 4, 0), (22, .if_icmp .ne 16, 3, 38, 0), (25, .aload_n 0, 1, 0, 0), (26, .bipush 7, 2, 7, 0), (28, .invokevirtual 66, 3, 112, 1), (31, .iload_n 1, 1, 0, 0)],
  [(32, .ishr, 1, 0, 0), (33, .iconst 1, 1, 1, 0), (34, .iand, 1, 0, 0), (35, .goto 11, 3, 46, 0), (38, .aload_n 0, 1, 0, 0), (39, .iload_n 1, 1, 0, 0), (40, .iconst 1, 1, 1, 0), (41, .iload_n 2, 1, 0, 0), (42, .iadd, 1, 0, 0), (43, .invokevirtual 133, 3, 117, 2), (46, .ireturn, 1, 0, 0)]]
def tm_k150 : List (List tm_E) := [[(0, .aload_n 0, 1, 0, 0), (1, .iload_n 1, 1, 0, 0), (2, .invokevirtual 186, 3, 115, 1), (5, .ifCond .eq 12, 3, 17, 0), (8, .iload_n 2, 1, 0, 0), (9, .iconst 0, 1, 0, 0), (10, .iconst 2, 1, 2, 0), (11, .invokestatic 47, 3, 103, 3), (14, .ifCond .ne 6, 3, 20, 0), (17, .ldc 55, 2, 1000001, 1), (19, .ireturn, 1, 0, 0), (20, .iload_n 2, 1, 0, 0), (21, .iconst 2, 1, 2, 0), (22, .if_icmp .ne 16, 3, 38, 0), (25, .aload_n 0, 1, 0, 0), (26, .bipush 6, 2, 6, 0), (28, .invokevirtual 66, 3, 112, 1), (31, .iload_n 1, 1, 0, 0)],
  [(32, .ishr, 1, 0, 0), (33, .iconst 1, 1, 1, 0), (34, .iand, 1, 0, 0), (35, .goto 15, 3, 50, 0), (38, .aload_n 0, 1, 0, 0), (39, .bipush 8, 2, 8, 0), (41, .iconst 2, 1, 2, 0), (42, .iload_n 1, 1, 0, 0), (43, .imul, 1, 0, 0), (44, .iadd, 1, 0, 0), (45, .iload_n 2, 1, 0, 0), (46, .iadd, 1, 0, 0), (47, .invokevirtual 66, 3, 112, 1), (50, .ireturn, 1, 0, 0)]]
def tm_k151 : List (List tm_E) := [[(0, .iload_n 1, 1, 0, 0), (1, .iconst 0, 1, 0, 0), (2, .aload_n 0, 1, 0, 0), (3, .iconst 0, 1, 0, 0), (4, .invokevirtual 66, 3, 112, 1), (7, .iconst 1, 1, 1, 0), (8, .isub, 1, 0, 0), (9, .invokestatic 47, 3, 103, 3), (12, .ifCond .eq 17, 3, 29, 0), (15, .aload_n 0, 1, 0, 0), (16, .iload_n 1, 1, 0, 0), (17, .aload_n 0, 1, 0, 0), (18, .bipush 6, 2, 6, 0), (20, .invokevirtual 66, 3, 112, 1), (23, .invokevirtual 141, 3, 130, 2), (26, .goto 5, 3, 31, 0), (29, .ldc 55, 2, 1000001, 1), (31, .ireturn, 1, 0, 0)]]
def tm_k152 : List (List tm_E) := [[(0, .aload_n 0, 1, 0, 0), (1, .iload_n 1, 1, 0, 0), (2, .invokevirtual 189, 3, 116, 1), (5, .ifCond .eq 31, 3, 36, 0), (8, .aload_n 0, 1, 0, 0), (9, .iload_n 2, 1, 0, 0), (10, .invokevirtual 186, 3, 115, 1), (13, .ifCond .eq 23, 3, 36, 0), (16, .aload_n 0, 1, 0, 0), (17, .aload_n 0, 1, 0, 0), (18, .iload_n 1, 1, 0, 0), (19, .iconst 1, 1, 1, 0), (20, .invokevirtual 133, 3, 117, 2), (23, .iload_n 2, 1, 0, 0), (24, .aload_n 0, 1, 0, 0), (25, .bipush 6, 2, 6, 0), (27, .invokevirtual 66, 3, 112, 1), (30, .invokevirtual 156, 3, 131, 3)],
  [(33, .goto 5, 3, 38, 0), (36, .ldc 55, 2, 1000001, 1), (38, .ireturn, 1, 0, 0)]]
def tm_k153 : List (List tm_E) := [[(0, .aload_n 0, 1, 0, 0), (1, .iload_n 1, 1, 0, 0), (2, .invokevirtual 186, 3, 115, 1), (5, .ifCond .eq 12, 3, 17, 0), (8, .iload_n 2, 1, 0, 0), (9, .iconst 0, 1, 0, 0), (10, .iconst 1, 1, 1, 0), (11, .invokestatic 47, 3, 103, 3), (14, .ifCond .ne 6, 3, 20, 0), (17, .ldc 55, 2, 1000001, 1), (19, .ireturn, 1, 0, 0), (20, .aload_n 0, 1, 0, 0), (21, .invokevirtual 183, 3, 135, 0), (24, .aload_n 0, 1, 0, 0), (25, .iload_n 1, 1, 0, 0), (26, .iload_n 2, 1, 0, 0), (27, .ifCond .ne 7, 3, 34, 0), (30, .iconst 1, 1, 1, 0), (31, .goto 4, 3, 35, 0)],
  [(34, .iconst 0, 1, 0, 0), (35, .invokevirtual 168, 3, 139, 2), (38, .ireturn, 1, 0, 0)]]
def tm_k154 : List (List tm_E) := [[(0, .aload_n 0, 1, 0, 0), (1, .invokevirtual 175, 3, 143, 0), (4, .ifCond .ne 6, 3, 10, 0), (7, .ldc 179, 2, 1000002, 1), (9, .ireturn, 1, 0, 0), (10, .iload_n 1, 1, 0, 0), (11, .iconst 0, 1, 0, 0), (12, .bipush 60, 2, 60, 0), (14, .invokestatic 47, 3, 103, 3), (17, .ifCond .eq 12, 3, 29, 0), (20, .iload_n 2, 1, 0, 0), (21, .iconst 0, 1, 0, 0), (22, .iconst 2, 1, 2, 0), (23, .invokestatic 47, 3, 103, 3), (26, .ifCond .ne 6, 3, 32, 0), (29, .ldc 55, 2, 1000001, 1), (31, .ireturn, 1, 0, 0)],
  [(32, .aload_n 0, 1, 0, 0), (33, .invokevirtual 183, 3, 135, 0), (36, .aload_n 0, 1, 0, 0), (37, .iload_n 1, 1, 0, 0), (38, .invokevirtual 195, 3, 141, 1), (41, .iload_n 2, 1, 0, 0), (42, .ifCond .ne 10, 3, 52, 0), (45, .aload_n 0, 1, 0, 0), (46, .getfield 144, 3, 7, 18), (49, .goto 27, 3, 76, 0), (52, .iload_n 2, 1, 0, 0), (53, .iconst 1, 1, 1, 0), (54, .if_icmp .ne 14, 3, 68, 0), (57, .aload_n 0, 1, 0, 0), (58, .aload_n 0, 1, 0, 0), (59, .getfield 144, 3, 7, 18), (62, .invokevirtual 198, 3, 133, 1)],
  [(65, .goto 11, 3, 76, 0), (68, .aload_n 0, 1, 0, 0), (69, .aload_n 0, 1, 0, 0), (70, .getfield 144, 3, 7, 18), (73, .invokevirtual 201, 3, 134, 1), (76, .ireturn, 1, 0, 0)]]
def tm_k155 : List (List tm_E) := [[(0, .aload_n 0, 1, 0, 0), (1, .invokevirtual 183, 3, 135, 0), (4, .aload_n 0, 1, 0, 0), (5, .getfield 144, 3, 7, 18), (8, .istore_n 1, 1, 0, 0), (9, .aload_n 0, 1, 0, 0), (10, .getfield 147, 3, 7, 19), (13, .istore_n 2, 1, 0, 0), (14, .iconst 0, 1, 0, 0), (15, .istore_n 3, 1, 0, 0), (16, .iconst 1, 1, 1, 0), (17, .istore 4, 2, 0, 0), (19, .iconst 0, 1, 0, 0), (20, .istore 5, 2, 0, 0), (22, .iload 5, 2, 0, 0), (24, .ifCond .ne 60, 3, 84, 0), (27, .iload_n 3, 1, 0, 0), (28, .iload 4, 2, 0, 0), (30, .if_icmp .ne 21, 3, 51, 0)],
  [(33, .aload_n 0, 1, 0, 0), (34, .getfield 144, 3, 7, 18), (37, .istore_n 1, 1, 0, 0), (38, .aload_n 0, 1, 0, 0), (39, .getfield 147, 3, 7, 19), (42, .istore_n 2, 1, 0, 0), (43, .iload 4, 2, 0, 0), (45, .iconst 2, 1, 2, 0), (46, .imul, 1, 0, 0), (47, .istore 4, 2, 0, 0), (49, .iconst 0, 1, 0, 0), (50, .istore_n 3, 1, 0, 0), (51, .aload_n 0, 1, 0, 0), (52, .invokevirtual 172, 3, 140, 0), (55, .iinc 3 1, 3, 1, 0), (58, .aload_n 0, 1, 0, 0), (59, .getfield 144, 3, 7, 18), (62, .iload_n 1, 1, 0, 0), (63, .if_icmp .ne 15, 3, 78, 0)],
  [(66, .aload_n 0, 1, 0, 0), (67, .getfield 147, 3, 7, 19), (70, .iload_n 2, 1, 0, 0), (71, .if_icmp .ne 7, 3, 78, 0), (74, .iconst 1, 1, 1, 0), (75, .goto 4, 3, 79, 0), (78, .iconst 0, 1, 0, 0), (79, .istore 5, 2, 0, 0), (81, .goto (-59), 3, 22, 0), (84, .iload_n 3, 1, 0, 0), (85, .ireturn, 1, 0, 0)]]
def tm_k156 : List (List tm_E) := [[(0, .aload_n 0, 1, 0, 0), (1, .invokevirtual 175, 3, 143, 0), (4, .ifCond .ne 6, 3, 10, 0), (7, .ldc 179, 2, 1000002, 1), (9, .ireturn, 1, 0, 0), (10, .iload_n 1, 1, 0, 0), (11, .iconst 0, 1, 0, 0), (12, .iconst 1, 1, 1, 0), (13, .invokestatic 47, 3, 103, 3), (16, .ifCond .ne 6, 3, 22, 0), (19, .ldc 55, 2, 1000001, 1), (21, .ireturn, 1, 0, 0), (22, .aload_n 0, 1, 0, 0), (23, .invokevirtual 204, 3, 155, 0), (26, .istore_n 2, 1, 0, 0), (27, .iconst 0, 1, 0, 0), (28, .istore_n 3, 1, 0, 0), (29, .aload_n 0, 1, 0, 0), (30, .invokevirtual 183, 3, 135, 0)],
  [(33, .aload_n 0, 1, 0, 0), (34, .getfield 144, 3, 7, 18), (37, .istore 4, 2, 0, 0), (39, .aload_n 0, 1, 0, 0), (40, .getfield 147, 3, 7, 19), (43, .istore 5, 2, 0, 0), (45, .aload_n 0, 1, 0, 0), (46, .iload_n 2, 1, 0, 0), (47, .invokevirtual 195, 3, 141, 1), (50, .aload_n 0, 1, 0, 0), (51, .getfield 144, 3, 7, 18), (54, .istore 6, 2, 0, 0), (56, .aload_n 0, 1, 0, 0), (57, .getfield 147, 3, 7, 19), (60, .istore 7, 2, 0, 0), (62, .iload 4, 2, 0, 0)],
  [(64, .iload 6, 2, 0, 0), (66, .if_icmp .ne 10, 3, 76, 0), (69, .iload 5, 2, 0, 0), (71, .iload 7, 2, 0, 0), (73, .if_icmp .eq 65, 3, 138, 0), (76, .aload_n 0, 1, 0, 0), (77, .iload 4, 2, 0, 0), (79, .putfield 144, 3, 7, 18), (82, .aload_n 0, 1, 0, 0), (83, .iload 5, 2, 0, 0), (85, .putfield 147, 3, 7, 19), (88, .aload_n 0, 1, 0, 0), (89, .invokevirtual 172, 3, 140, 0), (92, .aload_n 0, 1, 0, 0), (93, .getfield 144, 3, 7, 18)],
  [(96, .istore 4, 2, 0, 0), (98, .aload_n 0, 1, 0, 0), (99, .getfield 147, 3, 7, 19), (102, .istore 5, 2, 0, 0), (104, .aload_n 0, 1, 0, 0), (105, .iload 6, 2, 0, 0), (107, .putfield 144, 3, 7, 18), (110, .aload_n 0, 1, 0, 0), (111, .iload 7, 2, 0, 0), (113, .putfield 147, 3, 7, 19), (116, .aload_n 0, 1, 0, 0), (117, .invokevirtual 172, 3, 140, 0), (120, .aload_n 0, 1, 0, 0), (121, .getfield 144, 3, 7, 18), (124, .istore 6, 2, 0, 0), (126, .aload_n 0, 1, 0, 0), (127, .getfield 147, 3, 7, 19)],
  [(130, .istore 7, 2, 0, 0), (132, .iinc 3 1, 3, 1, 0), (135, .goto (-73), 3, 62, 0), (138, .iload_n 1, 1, 0, 0), (139, .ifCond .ne 7, 3, 146, 0), (142, .iload_n 3, 1, 0, 0), (143, .goto 4, 3, 147, 0), (146, .iload_n 2, 1, 0, 0), (147, .ireturn, 1, 0, 0)]]
def tm_k157 : List (List tm_E) := [[(0, .iconst 0, 1, 0, 0), (1, .istore_n 1, 1, 0, 0), (2, .iconst 0, 1, 0, 0), (3, .istore_n 2, 1, 0, 0), (4, .iload_n 2, 1, 0, 0), (5, .bipush 8, 2, 8, 0), (7, .if_icmp .ge 17, 3, 24, 0), (10, .iload_n 1, 1, 0, 0), (11, .iload_n 0, 1, 0, 0), (12, .iload_n 2, 1, 0, 0), (13, .ishr, 1, 0, 0), (14, .iconst 1, 1, 1, 0), (15, .iand, 1, 0, 0), (16, .iadd, 1, 0, 0), (17, .istore_n 1, 1, 0, 0), (18, .iinc 2 1, 3, 1, 0), (21, .goto (-17), 3, 4, 0), (24, .iload_n 1, 1, 0, 0), (25, .ireturn, 1, 0, 0)]]
def tm_k158 : List (List tm_E) := [[(0, .aload_n 0, 1, 0, 0), (1, .invokevirtual 183, 3, 135, 0), (4, .iconst 0, 1, 0, 0), (5, .istore 5, 2, 0, 0), (7, .iload 5, 2, 0, 0), (9, .aload_n 0, 1, 0, 0), (10, .iconst 4, 1, 4, 0), (11, .invokevirtual 66, 3, 112, 1), (14, .if_icmp .ge 43, 3, 57, 0), (17, .iload_n 3, 1, 0, 0), (18, .iload 5, 2, 0, 0), (20, .ishr, 1, 0, 0), (21, .iconst 1, 1, 1, 0), (22, .iand, 1, 0, 0), (23, .iconst 1, 1, 1, 0), (24, .if_icmp .ne 27, 3, 51, 0), (27, .aload_n 0, 1, 0, 0), (28, .getfield 33, 3, 7, 20), (31, .iload 5, 2, 0, 0)],
  [(33, .aload_n 0, 1, 0, 0), (34, .getfield 33, 3, 7, 20), (37, .iload 5, 2, 0, 0), (39, .iaload, 1, 0, 0), (40, .iconst 1, 1, 1, 0), (41, .iload_n 1, 1, 0, 0), (42, .ishl, 1, 0, 0), (43, .iconst (-1), 1, 1, 1), (44, .ixor, 1, 0, 0), (45, .iand, 1, 0, 0), (46, .iload_n 2, 1, 0, 0), (47, .iload_n 1, 1, 0, 0), (48, .ishl, 1, 0, 0), (49, .ior, 1, 0, 0), (50, .iastore, 1, 0, 0), (51, .iinc 5 1, 3, 1, 0), (54, .goto (-47), 3, 7, 0), (57, .iconst 1, 1, 1, 0), (58, .istore 5, 2, 0, 0), (60, .iconst 0, 1, 0, 0), (61, .istore 6, 2, 0, 0), (63, .iload 6, 2, 0, 0)],
  [(65, .iload 4, 2, 0, 0), (67, .if_icmp .ge 37, 3, 104, 0), (70, .iload 5, 2, 0, 0), (72, .ifCond .eq 32, 3, 104, 0), (75, .aload_n 0, 1, 0, 0), (76, .invokevirtual 172, 3, 140, 0), (79, .aload_n 0, 1, 0, 0), (80, .getfield 144, 3, 7, 18), (83, .iload_n 1, 1, 0, 0), (84, .ishr, 1, 0, 0), (85, .iconst 1, 1, 1, 0), (86, .iand, 1, 0, 0), (87, .iload_n 2, 1, 0, 0), (88, .if_icmp .ne 7, 3, 95, 0), (91, .iconst 1, 1, 1, 0), (92, .goto 4, 3, 96, 0), (95, .iconst 0, 1, 0, 0)],
  [(96, .istore 5, 2, 0, 0), (98, .iinc 6 1, 3, 1, 0), (101, .goto (-38), 3, 63, 0), (104, .iload 5, 2, 0, 0), (106, .ireturn, 1, 0, 0)]]
def tm_k159 : List (List tm_E) := [[(0, .ldc 132, 2, 1000000, 1), (2, .istore 5, 2, 0, 0), (4, .iconst 0, 1, 0, 0), (5, .istore 6, 2, 0, 0), (7, .iload 6, 2, 0, 0), (9, .iconst 1, 1, 1, 0), (10, .aload_n 0, 1, 0, 0), (11, .iconst 4, 1, 4, 0), (12, .invokevirtual 66, 3, 112, 1), (15, .ishl, 1, 0, 0), (16, .if_icmp .ge 62, 3, 78, 0), (19, .iload 5, 2, 0, 0), (21, .ldc 132, 2, 1000000, 1), (23, .if_icmp .eq 16, 3, 39, 0), (26, .iload 6, 2, 0, 0), (28, .invokestatic 207, 3, 157, 1), (31, .iload 5, 2, 0, 0)],
  [(33, .invokestatic 207, 3, 157, 1), (36, .if_icmp .ge 7, 3, 43, 0), (39, .iconst 1, 1, 1, 0), (40, .goto 4, 3, 44, 0), (43, .iconst 0, 1, 0, 0), (44, .istore 7, 2, 0, 0), (46, .iload 7, 2, 0, 0), (48, .ifCond .eq 20, 3, 68, 0), (51, .aload_n 0, 1, 0, 0), (52, .iload_n 1, 1, 0, 0), (53, .iload_n 2, 1, 0, 0), (54, .iload 6, 2, 0, 0), (56, .iload_n 3, 1, 0, 0), (57, .invokevirtual 210, 3, 158, 4), (60, .ifCond .eq 8, 3, 68, 0), (63, .iload 6, 2, 0, 0)],
  [(65, .goto 5, 3, 70, 0), (68, .iload 5, 2, 0, 0), (70, .istore 5, 2, 0, 0), (72, .iinc 6 1, 3, 1, 0), (75, .goto (-68), 3, 7, 0), (78, .iload 5, 2, 0, 0), (80, .ldc 132, 2, 1000000, 1), (82, .if_icmp .eq 9, 3, 91, 0), (85, .iload 4, 2, 0, 0), (87, .iconst 1, 1, 1, 0), (88, .if_icmp .ne 8, 3, 96, 0), (91, .iload 5, 2, 0, 0), (93, .goto 8, 3, 101, 0)],
  [(96, .iload 5, 2, 0, 0), (98, .invokestatic 207, 3, 157, 1), (101, .ireturn, 1, 0, 0)]]
def tm_k160 : List (List tm_E) := [[(0, .aload_n 0, 1, 0, 0), (1, .iload_n 1, 1, 0, 0), (2, .invokevirtual 186, 3, 115, 1), (5, .ifCond .eq 32, 3, 37, 0), (8, .iload_n 2, 1, 0, 0), (9, .iconst 0, 1, 0, 0), (10, .iconst 1, 1, 1, 0), (11, .invokestatic 47, 3, 103, 3), (14, .ifCond .eq 23, 3, 37, 0), (17, .iload_n 3, 1, 0, 0), (18, .iconst 0, 1, 0, 0), (19, .iconst 1, 1, 1, 0), (20, .invokestatic 47, 3, 103, 3), (23, .ifCond .eq 14, 3, 37, 0), (26, .aload_n 0, 1, 0, 0), (27, .iload_n 1, 1, 0, 0), (28, .iload_n 2, 1, 0, 0), (29, .iconst 1, 1, 1, 0), (30, .iload_n 3, 1, 0, 0), (31, .invokevirtual 214, 3, 159, 4)],
  [(34, .goto 5, 3, 39, 0), (37, .ldc 55, 2, 1000001, 1), (39, .ireturn, 1, 0, 0)]]
def tm_k161 : List (List tm_E) := [[(0, .aload_n 0, 1, 0, 0), (1, .iload_n 1, 1, 0, 0), (2, .invokevirtual 186, 3, 115, 1), (5, .ifCond .eq 33, 3, 38, 0), (8, .iload_n 2, 1, 0, 0), (9, .iconst 1, 1, 1, 0), (10, .bipush 10, 2, 10, 0), (12, .invokestatic 47, 3, 103, 3), (15, .ifCond .eq 23, 3, 38, 0), (18, .iload_n 3, 1, 0, 0), (19, .iconst 0, 1, 0, 0), (20, .iconst 1, 1, 1, 0), (21, .invokestatic 47, 3, 103, 3), (24, .ifCond .eq 14, 3, 38, 0), (27, .aload_n 0, 1, 0, 0), (28, .iload_n 1, 1, 0, 0), (29, .iconst 1, 1, 1, 0), (30, .iload_n 2, 1, 0, 0), (31, .iload_n 3, 1, 0, 0)],
  [(32, .invokevirtual 214, 3, 159, 4), (35, .goto 5, 3, 40, 0), (38, .ldc 55, 2, 1000001, 1), (40, .ireturn, 1, 0, 0)]]
def tm_k162 : List (List tm_E) := [[(0, .aload_n 0, 1, 0, 0), (1, .invokevirtual 172, 3, 140, 0), (4, .aload_n 0, 1, 0, 0), (5, .aload_n 0, 1, 0, 0), (6, .getfield 144, 3, 7, 18), (9, .invokevirtual 201, 3, 134, 1), (12, .istore_n 3, 1, 0, 0), (13, .iload_n 3, 1, 0, 0), (14, .iload_n 1, 1, 0, 0), (15, .ishr, 1, 0, 0), (16, .iconst 1, 1, 1, 0), (17, .iand, 1, 0, 0), (18, .iconst 1, 1, 1, 0), (19, .if_icmp .ne 16, 3, 35, 0), (22, .iload_n 3, 1, 0, 0), (23, .iload_n 2, 1, 0, 0), (24, .ishr, 1, 0, 0), (25, .iconst 1, 1, 1, 0), (26, .iand, 1, 0, 0), (27, .iconst 1, 1, 1, 0), (28, .if_icmp .ne 7, 3, 35, 0), (31, .iconst 1, 1, 1, 0)],
  [(32, .goto 4, 3, 36, 0), (35, .iconst 0, 1, 0, 0), (36, .ireturn, 1, 0, 0)]]
def tm_k163 : List (List tm_E) := [[(0, .aload_n 0, 1, 0, 0), (1, .iload_n 1, 1, 0, 0), (2, .invokevirtual 189, 3, 116, 1), (5, .ifCond .eq 16, 3, 21, 0), (8, .aload_n 0, 1, 0, 0), (9, .iload_n 2, 1, 0, 0), (10, .invokevirtual 189, 3, 116, 1), (13, .ifCond .eq 8, 3, 21, 0), (16, .iload_n 1, 1, 0, 0), (17, .iload_n 2, 1, 0, 0), (18, .if_icmp .ne 6, 3, 24, 0), (21, .ldc 55, 2, 1000001, 1), (23, .ireturn, 1, 0, 0), (24, .aload_n 0, 1, 0, 0), (25, .invokevirtual 183, 3, 135, 0), (28, .aload_n 0, 1, 0, 0), (29, .iload_n 1, 1, 0, 0), (30, .iload_n 2, 1, 0, 0), (31, .invokevirtual 218, 3, 162, 2)],
  [(34, .ifCond .eq 6, 3, 40, 0), (37, .ldc 132, 2, 1000000, 1), (39, .ireturn, 1, 0, 0), (40, .iconst 0, 1, 0, 0), (41, .istore_n 3, 1, 0, 0), (42, .iload_n 3, 1, 0, 0), (43, .aload_n 0, 1, 0, 0), (44, .iconst 3, 1, 3, 0), (45, .invokevirtual 66, 3, 112, 1), (48, .if_icmp .ge 115, 3, 163, 0), (51, .iconst 0, 1, 0, 0), (52, .istore 4, 2, 0, 0), (54, .iload 4, 2, 0, 0), (56, .aload_n 0, 1, 0, 0), (57, .iconst 3, 1, 3, 0), (58, .invokevirtual 66, 3, 112, 1), (61, .if_icmp .ge 96, 3, 157, 0)],
  [(64, .iload_n 3, 1, 0, 0), (65, .iload 4, 2, 0, 0), (67, .if_icmp .eq 84, 3, 151, 0), (70, .aload_n 0, 1, 0, 0), (71, .invokevirtual 183, 3, 135, 0), (74, .aload_n 0, 1, 0, 0), (75, .getfield 33, 3, 7, 20), (78, .iload_n 1, 1, 0, 0), (79, .iaload, 1, 0, 0), (80, .istore 5, 2, 0, 0), (82, .aload_n 0, 1, 0, 0), (83, .getfield 33, 3, 7, 20), (86, .iload_n 2, 1, 0, 0), (87, .iaload, 1, 0, 0), (88, .istore 6, 2, 0, 0), (90, .aload_n 0, 1, 0, 0), (91, .getfield 33, 3, 7, 20), (94, .iload_n 1, 1, 0, 0), (95, .iload 5, 2, 0, 0)],
  [(97, .iconst 1, 1, 1, 0), (98, .iload_n 3, 1, 0, 0), (99, .ishl, 1, 0, 0), (100, .iconst (-1), 1, 1, 1), (101, .ixor, 1, 0, 0), (102, .iand, 1, 0, 0), (103, .iload 6, 2, 0, 0), (105, .iconst 1, 1, 1, 0), (106, .iload_n 3, 1, 0, 0), (107, .ishl, 1, 0, 0), (108, .iand, 1, 0, 0), (109, .ior, 1, 0, 0), (110, .iastore, 1, 0, 0), (111, .aload_n 0, 1, 0, 0), (112, .getfield 33, 3, 7, 20), (115, .iload_n 2, 1, 0, 0), (116, .iload 6, 2, 0, 0), (118, .iconst 1, 1, 1, 0), (119, .iload 4, 2, 0, 0), (121, .ishl, 1, 0, 0), (122, .iconst (-1), 1, 1, 1), (123, .ixor, 1, 0, 0), (124, .iand, 1, 0, 0), (125, .iload 5, 2, 0, 0), (127, .iconst 1, 1, 1, 0)],
  [(128, .iload 4, 2, 0, 0), (130, .ishl, 1, 0, 0), (131, .iand, 1, 0, 0), (132, .ior, 1, 0, 0), (133, .iastore, 1, 0, 0), (134, .aload_n 0, 1, 0, 0), (135, .iload_n 1, 1, 0, 0), (136, .iload_n 2, 1, 0, 0), (137, .invokevirtual 218, 3, 162, 2), (140, .ifCond .eq 11, 3, 151, 0), (143, .bipush 8, 2, 8, 0), (145, .iload_n 3, 1, 0, 0), (146, .imul, 1, 0, 0), (147, .iload 4, 2, 0, 0), (149, .iadd, 1, 0, 0), (150, .ireturn, 1, 0, 0), (151, .iinc 4 1, 3, 1, 0), (154, .goto (-100), 3, 54, 0), (157, .iinc 3 1, 3, 1, 0)],
  [(160, .goto (-118), 3, 42, 0), (163, .ldc 132, 2, 1000000, 1), (165, .ireturn, 1, 0, 0)]]
def tm_k164 : List (List tm_E) := [[(0, .aload_n 0, 1, 0, 0), (1, .iload_n 1, 1, 0, 0), (2, .invokevirtual 189, 3, 116, 1), (5, .ifCond .ne 6, 3, 11, 0), (8, .ldc 55, 2, 1000001, 1), (10, .ireturn, 1, 0, 0), (11, .iconst 0, 1, 0, 0), (12, .istore_n 2, 1, 0, 0), (13, .iload_n 2, 1, 0, 0), (14, .iconst 1, 1, 1, 0), (15, .aload_n 0, 1, 0, 0), (16, .iconst 3, 1, 3, 0), (17, .invokevirtual 66, 3, 112, 1), (20, .ishl, 1, 0, 0), (21, .if_icmp .ge 31, 3, 52, 0), (24, .aload_n 0, 1, 0, 0), (25, .invokevirtual 183, 3, 135, 0), (28, .aload_n 0, 1, 0, 0), (29, .getfield 33, 3, 7, 20)],
  [(32, .iload_n 1, 1, 0, 0), (33, .iload_n 2, 1, 0, 0), (34, .iastore, 1, 0, 0), (35, .aload_n 0, 1, 0, 0), (36, .iload_n 1, 1, 0, 0), (37, .iload_n 1, 1, 0, 0), (38, .invokevirtual 218, 3, 162, 2), (41, .ifCond .eq 5, 3, 46, 0), (44, .iload_n 2, 1, 0, 0), (45, .ireturn, 1, 0, 0), (46, .iinc 2 1, 3, 1, 0), (49, .goto (-36), 3, 13, 0), (52, .ldc 132, 2, 1000000, 1), (54, .ireturn, 1, 0, 0)]]
def tm_k165 : List (List tm_E) := [[(0, .aload_n 0, 1, 0, 0), (1, .invokevirtual 175, 3, 143, 0), (4, .ifCond .ne 6, 3, 10, 0), (7, .ldc 179, 2, 1000002, 1), (9, .ireturn, 1, 0, 0), (10, .iload_n 1, 1, 0, 0), (11, .iconst 1, 1, 1, 0), (12, .bipush 10, 2, 10, 0), (14, .invokestatic 47, 3, 103, 3), (17, .ifCond .eq 12, 3, 29, 0), (20, .iload_n 2, 1, 0, 0), (21, .iconst 0, 1, 0, 0), (22, .iconst 2, 1, 2, 0), (23, .invokestatic 47, 3, 103, 3), (26, .ifCond .ne 6, 3, 32, 0), (29, .ldc 55, 2, 1000001, 1), (31, .ireturn, 1, 0, 0)],
  [(32, .ldc 132, 2, 1000000, 1), (34, .istore_n 3, 1, 0, 0), (35, .ldc 132, 2, 1000000, 1), (37, .istore 4, 2, 0, 0), (39, .iconst 0, 1, 0, 0), (40, .istore 5, 2, 0, 0), (42, .iload 5, 2, 0, 0), (44, .bipush 12, 2, 12, 0), (46, .if_icmp .ge 77, 3, 123, 0), (49, .aload_n 0, 1, 0, 0), (50, .invokevirtual 183, 3, 135, 0), (53, .aload_n 0, 1, 0, 0), (54, .iload 5, 2, 0, 0), (56, .iconst 3, 1, 3, 0), (57, .idiv, 1, 0, 0), (58, .putfield 150, 3, 7, 21), (61, .aload_n 0, 1, 0, 0), (62, .iload 5, 2, 0, 0)],
  [(64, .iconst 3, 1, 3, 0), (65, .irem, 1, 0, 0), (66, .putfield 153, 3, 7, 22), (69, .aload_n 0, 1, 0, 0), (70, .iload_n 1, 1, 0, 0), (71, .invokevirtual 195, 3, 141, 1), (74, .aload_n 0, 1, 0, 0), (75, .aload_n 0, 1, 0, 0), (76, .getfield 144, 3, 7, 18), (79, .invokevirtual 201, 3, 134, 1), (82, .invokestatic 207, 3, 157, 1), (85, .istore 6, 2, 0, 0), (87, .iload 6, 2, 0, 0), (89, .iload 4, 2, 0, 0), (91, .if_icmp .le 8, 3, 99, 0), (94, .iload 5, 2, 0, 0)],
  [(96, .goto 4, 3, 100, 0), (99, .iload_n 3, 1, 0, 0), (100, .istore_n 3, 1, 0, 0), (101, .iload 6, 2, 0, 0), (103, .iload 4, 2, 0, 0), (105, .if_icmp .le 8, 3, 113, 0), (108, .iload 6, 2, 0, 0), (110, .goto 5, 3, 115, 0), (113, .iload 4, 2, 0, 0), (115, .istore 4, 2, 0, 0), (117, .iinc 5 1, 3, 1, 0), (120, .goto (-78), 3, 42, 0), (123, .iload_n 2, 1, 0, 0), (124, .ifCond .ne 9, 3, 133, 0), (127, .iload_n 3, 1, 0, 0)],
  [(128, .iconst 3, 1, 3, 0), (129, .idiv, 1, 0, 0), (130, .goto 16, 3, 146, 0), (133, .iload_n 2, 1, 0, 0), (134, .iconst 1, 1, 1, 0), (135, .if_icmp .ne 9, 3, 144, 0), (138, .iload_n 3, 1, 0, 0), (139, .iconst 3, 1, 3, 0), (140, .irem, 1, 0, 0), (141, .goto 5, 3, 146, 0), (144, .iload 4, 2, 0, 0), (146, .ireturn, 1, 0, 0)]]
def tm_k166 : List (List tm_E) := [[(0, .aload_n 0, 1, 0, 0), (1, .invokevirtual 175, 3, 143, 0), (4, .ifCond .ne 6, 3, 10, 0), (7, .ldc 179, 2, 1000002, 1), (9, .ireturn, 1, 0, 0), (10, .iload_n 1, 1, 0, 0), (11, .invokestatic 51, 3, 106, 1), (14, .ifCond .eq 23, 3, 37, 0), (17, .iload_n 3, 1, 0, 0), (18, .iconst 0, 1, 0, 0), (19, .bipush 10, 2, 10, 0), (21, .invokestatic 47, 3, 103, 3), (24, .ifCond .eq 13, 3, 37, 0), (27, .iload 4, 2, 0, 0), (29, .iconst 0, 1, 0, 0), (30, .iconst 2, 1, 2, 0), (31, .invokestatic 47, 3, 103, 3)],
  [(34, .ifCond .ne 6, 3, 40, 0), (37, .ldc 55, 2, 1000001, 1), (39, .ireturn, 1, 0, 0), (40, .aload_n 0, 1, 0, 0), (41, .getfield 7, 3, 7, 0), (44, .iload_n 1, 1, 0, 0), (45, .iaload, 1, 0, 0), (46, .ifCond .ne 9, 3, 55, 0), (49, .aload_n 0, 1, 0, 0), (50, .iconst 1, 1, 1, 0), (51, .invokevirtual 56, 3, 104, 1), (54, .ireturn, 1, 0, 0), (55, .iload_n 2, 1, 0, 0), (56, .ifCond .lt 17, 3, 73, 0), (59, .iload_n 2, 1, 0, 0), (60, .aload_n 0, 1, 0, 0), (61, .getfield 13, 3, 7, 1)],
  [(64, .iload_n 1, 1, 0, 0), (65, .iaload, 1, 0, 0), (66, .iconst 2, 1, 2, 0), (67, .iload_n 3, 1, 0, 0), (68, .imul, 1, 0, 0), (69, .isub, 1, 0, 0), (70, .if_icmp .le 9, 3, 79, 0), (73, .aload_n 0, 1, 0, 0), (74, .iconst 2, 1, 2, 0), (75, .invokevirtual 56, 3, 104, 1), (78, .ireturn, 1, 0, 0), (79, .bipush 40, 2, 40, 0), (81, .iload_n 1, 1, 0, 0), (82, .imul, 1, 0, 0), (83, .iload_n 2, 1, 0, 0), (84, .iadd, 1, 0, 0), (85, .istore 5, 2, 0, 0), (87, .iconst 0, 1, 0, 0), (88, .istore 6, 2, 0, 0), (90, .iload 6, 2, 0, 0), (92, .iload_n 3, 1, 0, 0), (93, .if_icmp .ge 53, 3, 146, 0)],
  [(96, .aload_n 0, 1, 0, 0), (97, .aload_n 0, 1, 0, 0), (98, .getfield 16, 3, 7, 2), (101, .iload 5, 2, 0, 0), (103, .iconst 2, 1, 2, 0), (104, .iload 6, 2, 0, 0), (106, .imul, 1, 0, 0), (107, .iadd, 1, 0, 0), (108, .iaload, 1, 0, 0), (109, .invokevirtual 189, 3, 116, 1), (112, .ifCond .eq 25, 3, 137, 0), (115, .aload_n 0, 1, 0, 0), (116, .getfield 16, 3, 7, 2), (119, .iload 5, 2, 0, 0), (121, .iconst 2, 1, 2, 0), (122, .iload 6, 2, 0, 0), (124, .imul, 1, 0, 0), (125, .iadd, 1, 0, 0), (126, .iconst 1, 1, 1, 0), (127, .iadd, 1, 0, 0)],
  [(128, .iaload, 1, 0, 0), (129, .iconst 0, 1, 0, 0), (130, .iconst 1, 1, 1, 0), (131, .invokestatic 47, 3, 103, 3), (134, .ifCond .ne 6, 3, 140, 0), (137, .ldc 55, 2, 1000001, 1), (139, .ireturn, 1, 0, 0), (140, .iinc 6 1, 3, 1, 0), (143, .goto (-53), 3, 90, 0), (146, .iconst 1, 1, 1, 0), (147, .aload_n 0, 1, 0, 0), (148, .iconst 3, 1, 3, 0), (149, .invokevirtual 66, 3, 112, 1), (152, .ishl, 1, 0, 0), (153, .iconst 1, 1, 1, 0), (154, .isub, 1, 0, 0), (155, .istore 6, 2, 0, 0), (157, .iconst 0, 1, 0, 0), (158, .istore 7, 2, 0, 0)],
  [(160, .iload 6, 2, 0, 0), (162, .istore 8, 2, 0, 0), (164, .iload 6, 2, 0, 0), (166, .istore 9, 2, 0, 0), (168, .iconst 0, 1, 0, 0), (169, .istore 10, 2, 0, 0), (171, .iload 10, 2, 0, 0), (173, .iload 6, 2, 0, 0), (175, .if_icmp .gt 135, 3, 310, 0), (178, .aload_n 0, 1, 0, 0), (179, .iload 10, 2, 0, 0), (181, .invokevirtual 201, 3, 134, 1), (184, .istore 11, 2, 0, 0), (186, .iconst 1, 1, 1, 0), (187, .istore 12, 2, 0, 0), (189, .iconst 0, 1, 0, 0), (190, .istore 13, 2, 0, 0)],
  [(192, .iload 13, 2, 0, 0), (194, .iload_n 3, 1, 0, 0), (195, .if_icmp .ge 55, 3, 250, 0), (198, .iload 12, 2, 0, 0), (200, .ifCond .eq 41, 3, 241, 0), (203, .iload 11, 2, 0, 0), (205, .aload_n 0, 1, 0, 0), (206, .getfield 16, 3, 7, 2), (209, .iload 5, 2, 0, 0), (211, .iconst 2, 1, 2, 0), (212, .iload 13, 2, 0, 0), (214, .imul, 1, 0, 0), (215, .iadd, 1, 0, 0), (216, .iaload, 1, 0, 0), (217, .ishr, 1, 0, 0), (218, .iconst 1, 1, 1, 0), (219, .iand, 1, 0, 0), (220, .aload_n 0, 1, 0, 0), (221, .getfield 16, 3, 7, 2)],
  [(224, .iload 5, 2, 0, 0), (226, .iconst 2, 1, 2, 0), (227, .iload 13, 2, 0, 0), (229, .imul, 1, 0, 0), (230, .iadd, 1, 0, 0), (231, .iconst 1, 1, 1, 0), (232, .iadd, 1, 0, 0), (233, .iaload, 1, 0, 0), (234, .if_icmp .ne 7, 3, 241, 0), (237, .iconst 1, 1, 1, 0), (238, .goto 4, 3, 242, 0), (241, .iconst 0, 1, 0, 0), (242, .istore 12, 2, 0, 0), (244, .iinc 13 1, 3, 1, 0), (247, .goto (-55), 3, 192, 0), (250, .iload 7, 2, 0, 0), (252, .iload 12, 2, 0, 0), (254, .ifCond .eq 7, 3, 261, 0)],
  [(257, .iconst 1, 1, 1, 0), (258, .goto 4, 3, 262, 0), (261, .iconst 0, 1, 0, 0), (262, .iadd, 1, 0, 0), (263, .istore 7, 2, 0, 0), (265, .iload 8, 2, 0, 0), (267, .iload 12, 2, 0, 0), (269, .ifCond .eq 8, 3, 277, 0), (272, .iload 10, 2, 0, 0), (274, .goto 5, 3, 279, 0), (277, .iload 6, 2, 0, 0), (279, .iand, 1, 0, 0), (280, .istore 8, 2, 0, 0), (282, .iload 9, 2, 0, 0), (284, .iload 12, 2, 0, 0), (286, .ifCond .eq 13, 3, 299, 0)],
  [(289, .iload 6, 2, 0, 0), (291, .iload 10, 2, 0, 0), (293, .iconst (-1), 1, 1, 1), (294, .ixor, 1, 0, 0), (295, .iand, 1, 0, 0), (296, .goto 5, 3, 301, 0), (299, .iload 6, 2, 0, 0), (301, .iand, 1, 0, 0), (302, .istore 9, 2, 0, 0), (304, .iinc 10 1, 3, 1, 0), (307, .goto (-136), 3, 171, 0), (310, .aload_n 0, 1, 0, 0), (311, .iload 4, 2, 0, 0), (313, .ifCond .ne 8, 3, 321, 0), (316, .iload 7, 2, 0, 0), (318, .goto 26, 3, 344, 0)],
  [(321, .iload 7, 2, 0, 0), (323, .ifCond .ne 8, 3, 331, 0), (326, .ldc 132, 2, 1000000, 1), (328, .goto 16, 3, 344, 0), (331, .iload 4, 2, 0, 0), (333, .iconst 1, 1, 1, 0), (334, .if_icmp .ne 8, 3, 342, 0), (337, .iload 8, 2, 0, 0), (339, .goto 5, 3, 344, 0), (342, .iload 9, 2, 0, 0), (344, .invokevirtual 60, 3, 105, 1), (347, .ireturn, 1, 0, 0)]]
def tm_k167 : List (List tm_E) := [[(0, .aload_n 0, 1, 0, 0), (1, .invokevirtual 175, 3, 143, 0), (4, .ifCond .ne 6, 3, 10, 0), (7, .ldc 179, 2, 1000002, 1), (9, .ireturn, 1, 0, 0), (10, .aload_n 0, 1, 0, 0), (11, .iload_n 1, 1, 0, 0), (12, .invokevirtual 192, 3, 146, 1), (15, .ifCond .ne 6, 3, 21, 0), (18, .ldc 55, 2, 1000001, 1), (20, .ireturn, 1, 0, 0), (21, .iconst 0, 1, 0, 0), (22, .istore_n 2, 1, 0, 0), (23, .iconst 0, 1, 0, 0), (24, .istore_n 3, 1, 0, 0), (25, .iload_n 3, 1, 0, 0), (26, .aload_n 0, 1, 0, 0), (27, .iconst 4, 1, 4, 0), (28, .invokevirtual 66, 3, 112, 1), (31, .if_icmp .ge 67, 3, 98, 0)],
  [(34, .iconst 0, 1, 0, 0), (35, .istore 4, 2, 0, 0), (37, .iload 4, 2, 0, 0), (39, .aload_n 0, 1, 0, 0), (40, .iconst 3, 1, 3, 0), (41, .invokevirtual 66, 3, 112, 1), (44, .if_icmp .ge 48, 3, 92, 0), (47, .aload_n 0, 1, 0, 0), (48, .invokevirtual 183, 3, 135, 0), (51, .aload_n 0, 1, 0, 0), (52, .getfield 33, 3, 7, 20), (55, .iload_n 3, 1, 0, 0), (56, .dup2, 1, 0, 0), (57, .iaload, 1, 0, 0), (58, .iconst 1, 1, 1, 0), (59, .iload 4, 2, 0, 0), (61, .ishl, 1, 0, 0), (62, .ixor, 1, 0, 0), (63, .iastore, 1, 0, 0)],
  [(64, .aload_n 0, 1, 0, 0), (65, .invokevirtual 172, 3, 140, 0), (68, .iload_n 2, 1, 0, 0), (69, .aload_n 0, 1, 0, 0), (70, .getfield 144, 3, 7, 18), (73, .iload_n 1, 1, 0, 0), (74, .if_icmp .ne 9, 3, 83, 0), (77, .iconst 1, 1, 1, 0), (78, .iload_n 3, 1, 0, 0), (79, .ishl, 1, 0, 0), (80, .goto 4, 3, 84, 0), (83, .iconst 0, 1, 0, 0), (84, .ior, 1, 0, 0), (85, .istore_n 2, 1, 0, 0), (86, .iinc 4 1, 3, 1, 0), (89, .goto (-52), 3, 37, 0), (92, .iinc 3 1, 3, 1, 0), (95, .goto (-70), 3, 25, 0)],
  [(98, .iload_n 2, 1, 0, 0), (99, .ireturn, 1, 0, 0)]]
def tm_k168 : List (List tm_E) := [[(0, .iload_n 1, 1, 0, 0), (1, .iconst 0, 1, 0, 0), (2, .iconst 1, 1, 1, 0), (3, .invokestatic 47, 3, 103, 3), (6, .ifCond .ne 6, 3, 12, 0), (9, .ldc 55, 2, 1000001, 1), (11, .ireturn, 1, 0, 0), (12, .aload_n 0, 1, 0, 0), (13, .invokevirtual 175, 3, 143, 0), (16, .ifCond .ne 6, 3, 22, 0), (19, .ldc 179, 2, 1000002, 1), (21, .ireturn, 1, 0, 0), (22, .aload_n 0, 1, 0, 0), (23, .iconst 0, 1, 0, 0), (24, .iconst 1, 1, 1, 0), (25, .iload_n 1, 1, 0, 0), (26, .iadd, 1, 0, 0), (27, .invokevirtual 126, 3, 114, 2), (30, .aload_n 0, 1, 0, 0), (31, .getfield 22, 3, 7, 6)],
  [(34, .iload_n 1, 1, 0, 0), (35, .iconst 1, 1, 1, 0), (36, .bastore, 1, 0, 0), (37, .iconst 1, 1, 1, 0), (38, .ireturn, 1, 0, 0)]]
def tm_k169 : List (List tm_E) := [[(0, .iload_n 1, 1, 0, 0), (1, .iconst 0, 1, 0, 0), (2, .iconst 1, 1, 1, 0), (3, .invokestatic 47, 3, 103, 3), (6, .ifCond .ne 6, 3, 12, 0), (9, .ldc 55, 2, 1000001, 1), (11, .ireturn, 1, 0, 0), (12, .aload_n 0, 1, 0, 0), (13, .getfield 22, 3, 7, 6), (16, .iload_n 1, 1, 0, 0), (17, .baload, 1, 0, 0), (18, .ifCond .ne 6, 3, 24, 0), (21, .ldc 179, 2, 1000002, 1), (23, .ireturn, 1, 0, 0), (24, .aload_n 0, 1, 0, 0), (25, .iconst 1, 1, 1, 0), (26, .iload_n 1, 1, 0, 0), (27, .iadd, 1, 0, 0), (28, .iconst 0, 1, 0, 0), (29, .invokevirtual 126, 3, 114, 2)],
  [(32, .aload_n 0, 1, 0, 0), (33, .iconst 0, 1, 0, 0), (34, .putfield 129, 3, 7, 8), (37, .iconst 1, 1, 1, 0), (38, .ireturn, 1, 0, 0)]]
def tm_k170 : List (List tm_E) := [[(0, .aload_n 0, 1, 0, 0), (1, .iload_n 1, 1, 0, 0), (2, .invokevirtual 189, 3, 116, 1), (5, .ifCond .eq 12, 3, 17, 0), (8, .aload_n 0, 1, 0, 0), (9, .iload_n 1, 1, 0, 0), (10, .iconst 0, 1, 0, 0), (11, .invokevirtual 133, 3, 117, 2), (14, .goto 5, 3, 19, 0), (17, .ldc 55, 2, 1000001, 1), (19, .ireturn, 1, 0, 0)]]
def tm_k171 : List (List tm_E) := [[(0, .iload_n 1, 1, 0, 0), (1, .ifCond .eq 32, 3, 33, 0), (4, .iload_n 1, 1, 0, 0), (5, .iload_n 0, 1, 0, 0), (6, .if_icmp .eq 27, 3, 33, 0), (9, .iload_n 1, 1, 0, 0), (10, .iconst 1, 1, 1, 0), (11, .if_icmp .ne 12, 3, 23, 0), (14, .iload_n 0, 1, 0, 0), (15, .iconst 2, 1, 2, 0), (16, .iconst 3, 1, 3, 0), (17, .invokestatic 47, 3, 103, 3), (20, .ifCond .ne 13, 3, 33, 0), (23, .iload_n 1, 1, 0, 0), (24, .iconst 4, 1, 4, 0), (25, .if_icmp .ne 12, 3, 37, 0), (28, .iload_n 0, 1, 0, 0), (29, .iconst 5, 1, 5, 0), (30, .if_icmp .ne 7, 3, 37, 0)],
  [(33, .iconst 1, 1, 1, 0), (34, .goto 4, 3, 38, 0), (37, .iconst 0, 1, 0, 0), (38, .ireturn, 1, 0, 0)]]
def tm_k172 : List (List tm_E) := [[(0, .aload_n 0, 1, 0, 0), (1, .iload_n 1, 1, 0, 0), (2, .invokevirtual 189, 3, 116, 1), (5, .ifCond .eq 12, 3, 17, 0), (8, .iload_n 2, 1, 0, 0), (9, .iconst 0, 1, 0, 0), (10, .iconst 5, 1, 5, 0), (11, .invokestatic 47, 3, 103, 3), (14, .ifCond .ne 6, 3, 20, 0), (17, .ldc 55, 2, 1000001, 1), (19, .ireturn, 1, 0, 0), (20, .aload_n 0, 1, 0, 0), (21, .iload_n 1, 1, 0, 0), (22, .iconst 0, 1, 0, 0), (23, .invokevirtual 133, 3, 117, 2), (26, .iload_n 2, 1, 0, 0), (27, .invokestatic 221, 3, 171, 2), (30, .ifCond .eq 11, 3, 41, 0)],
  [(33, .aload_n 0, 1, 0, 0), (34, .iload_n 1, 1, 0, 0), (35, .invokevirtual 60, 3, 105, 1), (38, .goto 8, 3, 46, 0), (41, .aload_n 0, 1, 0, 0), (42, .iconst 3, 1, 3, 0), (43, .invokevirtual 56, 3, 104, 1), (46, .ireturn, 1, 0, 0)]]
def tm_k173 : List (List tm_E) := [[(0, .aload_n 0, 1, 0, 0), (1, .getfield 224, 3, 7, 24), (4, .bipush 16, 2, 16, 0), (6, .if_icmp .ge 23, 3, 29, 0), (9, .aload_n 0, 1, 0, 0), (10, .getfield 36, 3, 7, 23), (13, .aload_n 0, 1, 0, 0), (14, .getfield 224, 3, 7, 24), (17, .iload_n 1, 1, 0, 0), (18, .iastore, 1, 0, 0), (19, .aload_n 0, 1, 0, 0), (20, .dup, 1, 0, 0), (21, .getfield 224, 3, 7, 24), (24, .iconst 1, 1, 1, 0), (25, .iadd, 1, 0, 0), (26, .putfield 224, 3, 7, 24), (29, .return_, 1, 0, 0)]]
def tm_k174 : List (List tm_E) := [[(0, .aload_n 0, 1, 0, 0), (1, .bipush 10, 2, 10, 0), (3, .invokevirtual 227, 3, 173, 1), (6, .aload_n 0, 1, 0, 0), (7, .iload_n 1, 1, 0, 0), (8, .iconst 4, 1, 4, 0), (9, .invokevirtual 133, 3, 117, 2), (12, .ireturn, 1, 0, 0)]]
def tm_k175 : List (List tm_E) := [[(0, .aload_n 0, 1, 0, 0), (1, .bipush 20, 2, 20, 0), (3, .invokevirtual 227, 3, 173, 1), (6, .iload_n 1, 1, 0, 0), (7, .ireturn, 1, 0, 0)]]
def tm_k176 : List (List tm_E) := [[(0, .aload_n 0, 1, 0, 0), (1, .bipush 21, 2, 21, 0), (3, .invokevirtual 227, 3, 173, 1), (6, .aload_n 0, 1, 0, 0), (7, .iload_n 1, 1, 0, 0), (8, .invokevirtual 230, 3, 175, 1), (11, .aload_n 0, 1, 0, 0), (12, .aload_n 0, 1, 0, 0), (13, .iload_n 1, 1, 0, 0), (14, .iconst 1, 1, 1, 0), (15, .invokevirtual 133, 3, 117, 2), (18, .aload_n 0, 1, 0, 0), (19, .bipush 6, 2, 6, 0), (21, .invokevirtual 66, 3, 112, 1), (24, .invokevirtual 141, 3, 130, 2), (27, .invokestatic 207, 3, 157, 1), (30, .iadd, 1, 0, 0), (31, .ireturn, 1, 0, 0)]]
def tm_k177 : List (List tm_E) := [[(0, .aload_n 0, 1, 0, 0), (1, .bipush 13, 2, 13, 0), (3, .invokevirtual 227, 3, 173, 1), (6, .aload_n 0, 1, 0, 0), (7, .iload_n 1, 1, 0, 0), (8, .invokevirtual 233, 3, 174, 1), (11, .bipush 100, 2, 100, 0), (13, .isub, 1, 0, 0), (14, .ireturn, 1, 0, 0)]]
def tm_k178 : List (List tm_E) := [[(0, .aload_n 0, 1, 0, 0), (1, .bipush 14, 2, 14, 0), (3, .invokevirtual 227, 3, 173, 1), (6, .iconst 2, 1, 2, 0), (7, .aload_n 0, 1, 0, 0), (8, .iload_n 1, 1, 0, 0), (9, .invokevirtual 236, 3, 177, 1), (12, .imul, 1, 0, 0), (13, .ireturn, 1, 0, 0)]]
def tm_k179 : List (List tm_E) := [[(0, .aload_n 0, 1, 0, 0), (1, .bipush 22, 2, 22, 0), (3, .invokevirtual 227, 3, 173, 1), (6, .aload_n 0, 1, 0, 0), (7, .iload_n 1, 1, 0, 0), (8, .invokevirtual 239, 3, 176, 1), (11, .sipush 1000, 3, 1000, 0), (14, .isub, 1, 0, 0), (15, .ireturn, 1, 0, 0)]]
def tm_k180 : List (List tm_E) := [[(0, .aload_n 0, 1, 0, 0), (1, .bipush 24, 2, 24, 0), (3, .invokevirtual 227, 3, 173, 1), (6, .iconst 2, 1, 2, 0), (7, .aload_n 0, 1, 0, 0), (8, .iload_n 1, 1, 0, 0), (9, .invokevirtual 239, 3, 176, 1), (12, .imul, 1, 0, 0), (13, .ireturn, 1, 0, 0)]]
def tm_k181 : List (List tm_E) := [[(0, .aload_n 0, 1, 0, 0), (1, .bipush 23, 2, 23, 0), (3, .invokevirtual 227, 3, 173, 1), (6, .aload_n 0, 1, 0, 0), (7, .iload_n 1, 1, 0, 0), (8, .invokevirtual 230, 3, 175, 1), (11, .istore_n 2, 1, 0, 0), (12, .iload_n 2, 1, 0, 0), (13, .aload_n 0, 1, 0, 0), (14, .iload_n 1, 1, 0, 0), (15, .iconst 0, 1, 0, 0), (16, .invokevirtual 133, 3, 117, 2), (19, .iconst 5, 1, 5, 0), (20, .if_icmp .ne 11, 3, 31, 0), (23, .aload_n 0, 1, 0, 0), (24, .iload_n 1, 1, 0, 0), (25, .invokevirtual 242, 3, 178, 1), (28, .goto 8, 3, 36, 0), (31, .aload_n 0, 1, 0, 0)],
  [(32, .iload_n 1, 1, 0, 0), (33, .invokevirtual 236, 3, 177, 1), (36, .isub, 1, 0, 0), (37, .ireturn, 1, 0, 0)]]
def tm_k182 : List (List tm_E) := [[(0, .aload_n 0, 1, 0, 0), (1, .iload_n 1, 1, 0, 0), (2, .iconst 0, 1, 0, 0), (3, .invokevirtual 133, 3, 117, 2), (6, .istore_n 2, 1, 0, 0), (7, .iload_n 2, 1, 0, 0), (8, .iconst 1, 1, 1, 0), (9, .if_icmp .ne 11, 3, 20, 0), (12, .aload_n 0, 1, 0, 0), (13, .iload_n 1, 1, 0, 0), (14, .invokevirtual 239, 3, 176, 1), (17, .goto 34, 3, 51, 0), (20, .iload_n 2, 1, 0, 0), (21, .iconst 2, 1, 2, 0), (22, .if_icmp .ne 11, 3, 33, 0), (25, .aload_n 0, 1, 0, 0), (26, .iload_n 1, 1, 0, 0), (27, .invokevirtual 245, 3, 180, 1), (30, .goto 21, 3, 51, 0)],
  [(33, .iload_n 2, 1, 0, 0), (34, .iconst 3, 1, 3, 0), (35, .if_icmp .ne 11, 3, 46, 0), (38, .aload_n 0, 1, 0, 0), (39, .iload_n 1, 1, 0, 0), (40, .invokevirtual 248, 3, 179, 1), (43, .goto 8, 3, 51, 0), (46, .aload_n 0, 1, 0, 0), (47, .iload_n 1, 1, 0, 0), (48, .invokevirtual 251, 3, 181, 1), (51, .ireturn, 1, 0, 0)]]
def tm_k183 : List (List tm_E) := [[(0, .aload_n 0, 1, 0, 0), (1, .bipush 11, 2, 11, 0), (3, .invokevirtual 227, 3, 173, 1), (6, .aload_n 0, 1, 0, 0), (7, .iload_n 1, 1, 0, 0), (8, .invokevirtual 233, 3, 174, 1), (11, .istore_n 2, 1, 0, 0), (12, .iload_n 2, 1, 0, 0), (13, .aload_n 0, 1, 0, 0), (14, .iload_n 1, 1, 0, 0), (15, .invokevirtual 254, 3, 182, 1), (18, .iadd, 1, 0, 0), (19, .ireturn, 1, 0, 0)]]
def tm_k184 : List (List tm_E) := [[(0, .aload_n 0, 1, 0, 0), (1, .bipush 12, 2, 12, 0), (3, .invokevirtual 227, 3, 173, 1), (6, .aload_n 0, 1, 0, 0), (7, .iload_n 1, 1, 0, 0), (8, .invokevirtual 257, 3, 183, 1), (11, .ineg, 1, 0, 0), (12, .ireturn, 1, 0, 0)]]
def tm_k185 : List (List tm_E) := [[(0, .aload_n 0, 1, 0, 0), (1, .iload_n 1, 1, 0, 0), (2, .iconst 0, 1, 0, 0), (3, .invokevirtual 133, 3, 117, 2), (6, .istore_n 2, 1, 0, 0), (7, .iload_n 2, 1, 0, 0), (8, .iconst 2, 1, 2, 0), (9, .if_icmp .ne 11, 3, 20, 0), (12, .aload_n 0, 1, 0, 0), (13, .iload_n 1, 1, 0, 0), (14, .invokevirtual 260, 3, 184, 1), (17, .goto 34, 3, 51, 0), (20, .iload_n 2, 1, 0, 0), (21, .iconst 4, 1, 4, 0), (22, .if_icmp .ge 11, 3, 33, 0), (25, .aload_n 0, 1, 0, 0), (26, .iload_n 1, 1, 0, 0), (27, .invokevirtual 257, 3, 183, 1), (30, .goto 21, 3, 51, 0)],
  [(33, .iload_n 2, 1, 0, 0), (34, .iconst 4, 1, 4, 0), (35, .if_icmp .ne 11, 3, 46, 0), (38, .aload_n 0, 1, 0, 0), (39, .iload_n 1, 1, 0, 0), (40, .invokevirtual 236, 3, 177, 1), (43, .goto 8, 3, 51, 0), (46, .aload_n 0, 1, 0, 0), (47, .iload_n 1, 1, 0, 0), (48, .invokevirtual 242, 3, 178, 1), (51, .ireturn, 1, 0, 0)]]
def tm_k186 : List (List tm_E) := [[(0, .aload_n 0, 1, 0, 0), (1, .iload_n 1, 1, 0, 0), (2, .invokevirtual 189, 3, 116, 1), (5, .ifCond .eq 12, 3, 17, 0), (8, .iload_n 2, 1, 0, 0), (9, .iconst 0, 1, 0, 0), (10, .iconst 1, 1, 1, 0), (11, .invokestatic 47, 3, 103, 3), (14, .ifCond .ne 6, 3, 20, 0), (17, .ldc 55, 2, 1000001, 1), (19, .ireturn, 1, 0, 0), (20, .aload_n 0, 1, 0, 0), (21, .iconst 0, 1, 0, 0), (22, .putfield 224, 3, 7, 24), (25, .iload_n 2, 1, 0, 0), (26, .ifCond .ne 11, 3, 37, 0), (29, .aload_n 0, 1, 0, 0), (30, .iload_n 1, 1, 0, 0), (31, .invokevirtual 263, 3, 185, 1)],
  [(34, .goto 8, 3, 42, 0), (37, .aload_n 0, 1, 0, 0), (38, .iload_n 1, 1, 0, 0), (39, .invokevirtual 254, 3, 182, 1), (42, .ireturn, 1, 0, 0)]]
def tm_k187 : List (List tm_E) := [[(0, .iload_n 1, 1, 0, 0), (1, .iconst 0, 1, 0, 0), (2, .aload_n 0, 1, 0, 0), (3, .getfield 224, 3, 7, 24), (6, .iconst 1, 1, 1, 0), (7, .isub, 1, 0, 0), (8, .invokestatic 47, 3, 103, 3), (11, .ifCond .eq 12, 3, 23, 0), (14, .aload_n 0, 1, 0, 0), (15, .getfield 36, 3, 7, 23), (18, .iload_n 1, 1, 0, 0), (19, .iaload, 1, 0, 0), (20, .goto 5, 3, 25, 0), (23, .ldc 132, 2, 1000000, 1), (25, .ireturn, 1, 0, 0)]]
def tm_k188 : List (List tm_E) := [[(0, .iconst 0, 1, 0, 0), (1, .istore_n 2, 1, 0, 0), (2, .iconst 0, 1, 0, 0), (3, .istore_n 3, 1, 0, 0), (4, .iload_n 3, 1, 0, 0), (5, .bipush 8, 2, 8, 0), (7, .if_icmp .ge 26, 3, 33, 0), (10, .iload_n 2, 1, 0, 0), (11, .aload_n 0, 1, 0, 0), (12, .getfield 7, 3, 7, 0), (15, .iload_n 3, 1, 0, 0), (16, .iaload, 1, 0, 0), (17, .ifCond .ne 7, 3, 24, 0), (20, .iconst 0, 1, 0, 0), (21, .goto 4, 3, 25, 0), (24, .iconst 1, 1, 1, 0), (25, .iadd, 1, 0, 0), (26, .istore_n 2, 1, 0, 0), (27, .iinc 3 1, 3, 1, 0), (30, .goto (-26), 3, 4, 0)],
  [(33, .iload_n 1, 1, 0, 0), (34, .tableswitch 100 0 8 #[50, 52, 58, 64, 70, 76, 83, 90, 95], 50, 0, 0)],
  [(84, .iload_n 2, 1, 0, 0), (85, .ireturn, 1, 0, 0), (86, .aload_n 0, 1, 0, 0), (87, .iconst 0, 1, 0, 0), (88, .invokevirtual 66, 3, 112, 1), (91, .ireturn, 1, 0, 0), (92, .aload_n 0, 1, 0, 0), (93, .iconst 3, 1, 3, 0), (94, .invokevirtual 66, 3, 112, 1)],
  [(97, .ireturn, 1, 0, 0), (98, .aload_n 0, 1, 0, 0), (99, .iconst 4, 1, 4, 0), (100, .invokevirtual 66, 3, 112, 1), (103, .ireturn, 1, 0, 0), (104, .aload_n 0, 1, 0, 0), (105, .iconst 5, 1, 5, 0), (106, .invokevirtual 66, 3, 112, 1), (109, .ireturn, 1, 0, 0), (110, .aload_n 0, 1, 0, 0), (111, .bipush 6, 2, 6, 0), (113, .invokevirtual 66, 3, 112, 1), (116, .ireturn, 1, 0, 0), (117, .aload_n 0, 1, 0, 0), (118, .bipush 7, 2, 7, 0), (120, .invokevirtual 66, 3, 112, 1), (123, .ireturn, 1, 0, 0), (124, .aload_n 0, 1, 0, 0), (125, .getfield 129, 3, 7, 8)],
  [(128, .ireturn, 1, 0, 0), (129, .aload_n 0, 1, 0, 0), (130, .getfield 39, 3, 7, 10), (133, .ireturn, 1, 0, 0), (134, .ldc 55, 2, 1000001, 1), (136, .ireturn, 1, 0, 0)]]
def tm_k189 : List (List tm_E) := [[(0, .iload_n 0, 1, 0, 0), (1, .iload_n 0, 1, 0, 0), (2, .iconst 1, 1, 1, 0), (3, .iushr, 1, 0, 0), (4, .ldc_w 265, 3, 1431655765, 0), (7, .iand, 1, 0, 0), (8, .isub, 1, 0, 0), (9, .istore_n 0, 1, 0, 0), (10, .iload_n 0, 1, 0, 0), (11, .ldc_w 266, 3, 858993459, 0), (14, .iand, 1, 0, 0), (15, .iload_n 0, 1, 0, 0), (16, .iconst 2, 1, 2, 0), (17, .iushr, 1, 0, 0), (18, .ldc_w 266, 3, 858993459, 0), (21, .iand, 1, 0, 0), (22, .iadd, 1, 0, 0), (23, .istore_n 0, 1, 0, 0), (24, .iload_n 0, 1, 0, 0), (25, .iload_n 0, 1, 0, 0), (26, .iconst 4, 1, 4, 0), (27, .iushr, 1, 0, 0), (28, .iadd, 1, 0, 0), (29, .ldc_w 267, 3, 252645135, 0)],
  [(32, .iand, 1, 0, 0), (33, .istore_n 0, 1, 0, 0), (34, .iload_n 0, 1, 0, 0), (35, .iload_n 0, 1, 0, 0), (36, .bipush 8, 2, 8, 0), (38, .iushr, 1, 0, 0), (39, .iadd, 1, 0, 0), (40, .istore_n 0, 1, 0, 0), (41, .iload_n 0, 1, 0, 0), (42, .iload_n 0, 1, 0, 0), (43, .bipush 16, 2, 16, 0), (45, .iushr, 1, 0, 0), (46, .iadd, 1, 0, 0), (47, .istore_n 0, 1, 0, 0), (48, .iload_n 0, 1, 0, 0), (49, .bipush 63, 2, 63, 0), (51, .iand, 1, 0, 0), (52, .ireturn, 1, 0, 0)]]
def tm_k190 : List (List tm_E) := [[(0, .iconst 0, 1, 0, 0), (1, .istore_n 2, 1, 0, 0), (2, .aload_n 0, 1, 0, 0), (3, .arraylength, 1, 0, 0), (4, .istore_n 3, 1, 0, 0), (5, .iload_n 2, 1, 0, 0), (6, .iload_n 3, 1, 0, 0), (7, .if_icmp .ge 13, 3, 20, 0), (10, .aload_n 0, 1, 0, 0), (11, .iload_n 2, 1, 0, 0), (12, .iload_n 1, 1, 0, 0), (13, .iastore, 1, 0, 0), (14, .iinc 2 1, 3, 1, 0), (17, .goto (-12), 3, 5, 0), (20, .return_, 1, 0, 0)]]
def tm_k191 : List (List tm_E) := [[(0, .new 7, 3, 0, 0), (3, .dup, 1, 0, 0), (4, .invokespecial 9, 3, 998, 0), (7, .astore_n 1, 1, 0, 0), (8, .new 10, 3, 0, 0), (11, .dup, 1, 0, 0), (12, .invokespecial 12, 3, 998, 0), (15, .astore_n 2, 1, 0, 0), (16, .iconst 0, 1, 0, 0), (17, .istore_n 3, 1, 0, 0), (18, .iload_n 3, 1, 0, 0), (19, .aload_n 0, 1, 0, 0), (20, .arraylength, 1, 0, 0), (21, .bipush 6, 2, 6, 0), (23, .isub, 1, 0, 0), (24, .if_icmp .gt 1131, 3, 1155, 0), (27, .aload_n 0, 1, 0, 0), (28, .iload_n 3, 1, 0, 0), (29, .iaload, 1, 0, 0), (30, .bipush 63, 2, 63, 0)],
  [(32, .iand, 1, 0, 0), (33, .tableswitch 1116 0 32 #[147, 190, 233, 296, 319, 342, 355, 368, 391, 414, 447, 460, 493, 526, 549, 582, 615, 648, 671, 714, 757, 790, 813, 846, 899, 922, 945, 968, 991, 1024, 1057, 1080, 1103], 147, 0, 0)],
  [],
  [],
  [],
  [(180, .aload_n 1, 1, 0, 0), (181, .aload_n 0, 1, 0, 0), (182, .iload_n 3, 1, 0, 0), (183, .iconst 1, 1, 1, 0), (184, .iadd, 1, 0, 0), (185, .iaload, 1, 0, 0), (186, .aload_n 0, 1, 0, 0), (187, .iload_n 3, 1, 0, 0), (188, .iconst 2, 1, 2, 0), (189, .iadd, 1, 0, 0), (190, .iaload, 1, 0, 0), (191, .aload_n 0, 1, 0, 0)],
  [(192, .iload_n 3, 1, 0, 0), (193, .iconst 3, 1, 3, 0), (194, .iadd, 1, 0, 0), (195, .iaload, 1, 0, 0), (196, .invokevirtual 13, 3, 61, 3), (199, .aload_n 2, 1, 0, 0), (200, .aload_n 0, 1, 0, 0), (201, .iload_n 3, 1, 0, 0), (202, .iconst 1, 1, 1, 0), (203, .iadd, 1, 0, 0), (204, .iaload, 1, 0, 0), (205, .aload_n 0, 1, 0, 0), (206, .iload_n 3, 1, 0, 0), (207, .iconst 2, 1, 2, 0), (208, .iadd, 1, 0, 0), (209, .iaload, 1, 0, 0), (210, .aload_n 0, 1, 0, 0), (211, .iload_n 3, 1, 0, 0), (212, .iconst 3, 1, 3, 0), (213, .iadd, 1, 0, 0), (214, .iaload, 1, 0, 0), (215, .invokevirtual 17, 3, 107, 3), (218, .if_icmp .eq 931, 3, 1149, 0), (221, .iconst 0, 1, 0, 0), (222, .ireturn, 1, 0, 0), (223, .aload_n 1, 1, 0, 0)],
  [(224, .aload_n 0, 1, 0, 0), (225, .iload_n 3, 1, 0, 0), (226, .iconst 1, 1, 1, 0), (227, .iadd, 1, 0, 0), (228, .iaload, 1, 0, 0), (229, .aload_n 0, 1, 0, 0), (230, .iload_n 3, 1, 0, 0), (231, .iconst 2, 1, 2, 0), (232, .iadd, 1, 0, 0), (233, .iaload, 1, 0, 0), (234, .aload_n 0, 1, 0, 0), (235, .iload_n 3, 1, 0, 0), (236, .iconst 3, 1, 3, 0), (237, .iadd, 1, 0, 0), (238, .iaload, 1, 0, 0), (239, .invokevirtual 18, 3, 62, 3), (242, .aload_n 2, 1, 0, 0), (243, .aload_n 0, 1, 0, 0), (244, .iload_n 3, 1, 0, 0), (245, .iconst 1, 1, 1, 0), (246, .iadd, 1, 0, 0), (247, .iaload, 1, 0, 0), (248, .aload_n 0, 1, 0, 0), (249, .iload_n 3, 1, 0, 0), (250, .iconst 2, 1, 2, 0), (251, .iadd, 1, 0, 0), (252, .iaload, 1, 0, 0), (253, .aload_n 0, 1, 0, 0), (254, .iload_n 3, 1, 0, 0), (255, .iconst 3, 1, 3, 0)],
  [(256, .iadd, 1, 0, 0), (257, .iaload, 1, 0, 0), (258, .invokevirtual 21, 3, 108, 3), (261, .if_icmp .eq 888, 3, 1149, 0), (264, .iconst 0, 1, 0, 0), (265, .ireturn, 1, 0, 0), (266, .aload_n 1, 1, 0, 0), (267, .aload_n 0, 1, 0, 0), (268, .iload_n 3, 1, 0, 0), (269, .iconst 1, 1, 1, 0), (270, .iadd, 1, 0, 0), (271, .iaload, 1, 0, 0), (272, .aload_n 0, 1, 0, 0), (273, .iload_n 3, 1, 0, 0), (274, .iconst 2, 1, 2, 0), (275, .iadd, 1, 0, 0), (276, .iaload, 1, 0, 0), (277, .aload_n 0, 1, 0, 0), (278, .iload_n 3, 1, 0, 0), (279, .iconst 3, 1, 3, 0), (280, .iadd, 1, 0, 0), (281, .iaload, 1, 0, 0), (282, .aload_n 0, 1, 0, 0), (283, .iload_n 3, 1, 0, 0), (284, .iconst 4, 1, 4, 0), (285, .iadd, 1, 0, 0), (286, .iaload, 1, 0, 0), (287, .aload_n 0, 1, 0, 0)],
  [(288, .iload_n 3, 1, 0, 0), (289, .iconst 5, 1, 5, 0), (290, .iadd, 1, 0, 0), (291, .iaload, 1, 0, 0), (292, .invokevirtual 22, 3, 63, 5), (295, .aload_n 2, 1, 0, 0), (296, .aload_n 0, 1, 0, 0), (297, .iload_n 3, 1, 0, 0), (298, .iconst 1, 1, 1, 0), (299, .iadd, 1, 0, 0), (300, .iaload, 1, 0, 0), (301, .aload_n 0, 1, 0, 0), (302, .iload_n 3, 1, 0, 0), (303, .iconst 2, 1, 2, 0), (304, .iadd, 1, 0, 0), (305, .iaload, 1, 0, 0), (306, .aload_n 0, 1, 0, 0), (307, .iload_n 3, 1, 0, 0), (308, .iconst 3, 1, 3, 0), (309, .iadd, 1, 0, 0), (310, .iaload, 1, 0, 0), (311, .aload_n 0, 1, 0, 0), (312, .iload_n 3, 1, 0, 0), (313, .iconst 4, 1, 4, 0), (314, .iadd, 1, 0, 0), (315, .iaload, 1, 0, 0), (316, .aload_n 0, 1, 0, 0), (317, .iload_n 3, 1, 0, 0), (318, .iconst 5, 1, 5, 0), (319, .iadd, 1, 0, 0)],
  [(320, .iaload, 1, 0, 0), (321, .invokevirtual 26, 3, 109, 5), (324, .if_icmp .eq 825, 3, 1149, 0), (327, .iconst 0, 1, 0, 0), (328, .ireturn, 1, 0, 0), (329, .aload_n 1, 1, 0, 0), (330, .aload_n 0, 1, 0, 0), (331, .iload_n 3, 1, 0, 0), (332, .iconst 1, 1, 1, 0), (333, .iadd, 1, 0, 0), (334, .iaload, 1, 0, 0), (335, .invokevirtual 27, 3, 64, 1), (338, .aload_n 2, 1, 0, 0), (339, .aload_n 0, 1, 0, 0), (340, .iload_n 3, 1, 0, 0), (341, .iconst 1, 1, 1, 0), (342, .iadd, 1, 0, 0), (343, .iaload, 1, 0, 0), (344, .invokevirtual 31, 3, 110, 1), (347, .if_icmp .eq 802, 3, 1149, 0), (350, .iconst 0, 1, 0, 0), (351, .ireturn, 1, 0, 0)],
  [(352, .aload_n 1, 1, 0, 0), (353, .aload_n 0, 1, 0, 0), (354, .iload_n 3, 1, 0, 0), (355, .iconst 1, 1, 1, 0), (356, .iadd, 1, 0, 0), (357, .iaload, 1, 0, 0), (358, .invokevirtual 32, 3, 65, 1), (361, .aload_n 2, 1, 0, 0), (362, .aload_n 0, 1, 0, 0), (363, .iload_n 3, 1, 0, 0), (364, .iconst 1, 1, 1, 0), (365, .iadd, 1, 0, 0), (366, .iaload, 1, 0, 0), (367, .invokevirtual 35, 3, 118, 1), (370, .if_icmp .eq 779, 3, 1149, 0), (373, .iconst 0, 1, 0, 0), (374, .ireturn, 1, 0, 0), (375, .aload_n 1, 1, 0, 0), (376, .invokevirtual 36, 3, 66, 0), (379, .aload_n 2, 1, 0, 0), (380, .invokevirtual 40, 3, 128, 0), (383, .if_icmp .eq 766, 3, 1149, 0)],
  [(386, .iconst 0, 1, 0, 0), (387, .ireturn, 1, 0, 0), (388, .aload_n 1, 1, 0, 0), (389, .invokevirtual 41, 3, 67, 0), (392, .aload_n 2, 1, 0, 0), (393, .invokevirtual 44, 3, 129, 0), (396, .if_icmp .eq 753, 3, 1149, 0), (399, .iconst 0, 1, 0, 0), (400, .ireturn, 1, 0, 0), (401, .aload_n 1, 1, 0, 0), (402, .aload_n 0, 1, 0, 0), (403, .iload_n 3, 1, 0, 0), (404, .iconst 1, 1, 1, 0), (405, .iadd, 1, 0, 0), (406, .iaload, 1, 0, 0), (407, .invokevirtual 45, 3, 68, 1), (410, .aload_n 2, 1, 0, 0), (411, .aload_n 0, 1, 0, 0), (412, .iload_n 3, 1, 0, 0), (413, .iconst 1, 1, 1, 0), (414, .iadd, 1, 0, 0), (415, .iaload, 1, 0, 0)],
  [(416, .invokevirtual 48, 3, 144, 1), (419, .if_icmp .eq 730, 3, 1149, 0), (422, .iconst 0, 1, 0, 0), (423, .ireturn, 1, 0, 0), (424, .aload_n 1, 1, 0, 0), (425, .aload_n 0, 1, 0, 0), (426, .iload_n 3, 1, 0, 0), (427, .iconst 1, 1, 1, 0), (428, .iadd, 1, 0, 0), (429, .iaload, 1, 0, 0), (430, .invokevirtual 49, 3, 69, 1), (433, .aload_n 2, 1, 0, 0), (434, .aload_n 0, 1, 0, 0), (435, .iload_n 3, 1, 0, 0), (436, .iconst 1, 1, 1, 0), (437, .iadd, 1, 0, 0), (438, .iaload, 1, 0, 0), (439, .invokevirtual 52, 3, 145, 1), (442, .if_icmp .eq 707, 3, 1149, 0), (445, .iconst 0, 1, 0, 0), (446, .ireturn, 1, 0, 0), (447, .aload_n 1, 1, 0, 0)],
  [(448, .aload_n 0, 1, 0, 0), (449, .iload_n 3, 1, 0, 0), (450, .iconst 1, 1, 1, 0), (451, .iadd, 1, 0, 0), (452, .iaload, 1, 0, 0), (453, .aload_n 0, 1, 0, 0), (454, .iload_n 3, 1, 0, 0), (455, .iconst 2, 1, 2, 0), (456, .iadd, 1, 0, 0), (457, .iaload, 1, 0, 0), (458, .invokevirtual 53, 3, 70, 2), (461, .aload_n 2, 1, 0, 0), (462, .aload_n 0, 1, 0, 0), (463, .iload_n 3, 1, 0, 0), (464, .iconst 1, 1, 1, 0), (465, .iadd, 1, 0, 0), (466, .iaload, 1, 0, 0), (467, .aload_n 0, 1, 0, 0), (468, .iload_n 3, 1, 0, 0), (469, .iconst 2, 1, 2, 0), (470, .iadd, 1, 0, 0), (471, .iaload, 1, 0, 0), (472, .invokevirtual 57, 3, 147, 2), (475, .if_icmp .eq 674, 3, 1149, 0), (478, .iconst 0, 1, 0, 0), (479, .ireturn, 1, 0, 0)],
  [(480, .aload_n 1, 1, 0, 0), (481, .invokevirtual 58, 3, 71, 0), (484, .aload_n 2, 1, 0, 0), (485, .invokevirtual 61, 3, 148, 0), (488, .if_icmp .eq 661, 3, 1149, 0), (491, .iconst 0, 1, 0, 0), (492, .ireturn, 1, 0, 0), (493, .aload_n 1, 1, 0, 0), (494, .aload_n 0, 1, 0, 0), (495, .iload_n 3, 1, 0, 0), (496, .iconst 1, 1, 1, 0), (497, .iadd, 1, 0, 0), (498, .iaload, 1, 0, 0), (499, .aload_n 0, 1, 0, 0), (500, .iload_n 3, 1, 0, 0), (501, .iconst 2, 1, 2, 0), (502, .iadd, 1, 0, 0), (503, .iaload, 1, 0, 0), (504, .invokevirtual 62, 3, 72, 2), (507, .aload_n 2, 1, 0, 0), (508, .aload_n 0, 1, 0, 0), (509, .iload_n 3, 1, 0, 0), (510, .iconst 1, 1, 1, 0), (511, .iadd, 1, 0, 0)],
  [(512, .iaload, 1, 0, 0), (513, .aload_n 0, 1, 0, 0), (514, .iload_n 3, 1, 0, 0), (515, .iconst 2, 1, 2, 0), (516, .iadd, 1, 0, 0), (517, .iaload, 1, 0, 0), (518, .invokevirtual 65, 3, 149, 2), (521, .if_icmp .eq 628, 3, 1149, 0), (524, .iconst 0, 1, 0, 0), (525, .ireturn, 1, 0, 0), (526, .aload_n 1, 1, 0, 0), (527, .aload_n 0, 1, 0, 0), (528, .iload_n 3, 1, 0, 0), (529, .iconst 1, 1, 1, 0), (530, .iadd, 1, 0, 0), (531, .iaload, 1, 0, 0), (532, .aload_n 0, 1, 0, 0), (533, .iload_n 3, 1, 0, 0), (534, .iconst 2, 1, 2, 0), (535, .iadd, 1, 0, 0), (536, .iaload, 1, 0, 0), (537, .invokevirtual 66, 3, 73, 2), (540, .aload_n 2, 1, 0, 0), (541, .aload_n 0, 1, 0, 0), (542, .iload_n 3, 1, 0, 0), (543, .iconst 1, 1, 1, 0)],
  [(544, .iadd, 1, 0, 0), (545, .iaload, 1, 0, 0), (546, .aload_n 0, 1, 0, 0), (547, .iload_n 3, 1, 0, 0), (548, .iconst 2, 1, 2, 0), (549, .iadd, 1, 0, 0), (550, .iaload, 1, 0, 0), (551, .invokevirtual 69, 3, 150, 2), (554, .if_icmp .eq 595, 3, 1149, 0), (557, .iconst 0, 1, 0, 0), (558, .ireturn, 1, 0, 0), (559, .aload_n 1, 1, 0, 0), (560, .aload_n 0, 1, 0, 0), (561, .iload_n 3, 1, 0, 0), (562, .iconst 1, 1, 1, 0), (563, .iadd, 1, 0, 0), (564, .iaload, 1, 0, 0), (565, .invokevirtual 70, 3, 74, 1), (568, .aload_n 2, 1, 0, 0), (569, .aload_n 0, 1, 0, 0), (570, .iload_n 3, 1, 0, 0), (571, .iconst 1, 1, 1, 0), (572, .iadd, 1, 0, 0), (573, .iaload, 1, 0, 0), (574, .invokevirtual 73, 3, 151, 1)],
  [(577, .if_icmp .eq 572, 3, 1149, 0), (580, .iconst 0, 1, 0, 0), (581, .ireturn, 1, 0, 0), (582, .aload_n 1, 1, 0, 0), (583, .aload_n 0, 1, 0, 0), (584, .iload_n 3, 1, 0, 0), (585, .iconst 1, 1, 1, 0), (586, .iadd, 1, 0, 0), (587, .iaload, 1, 0, 0), (588, .aload_n 0, 1, 0, 0), (589, .iload_n 3, 1, 0, 0), (590, .iconst 2, 1, 2, 0), (591, .iadd, 1, 0, 0), (592, .iaload, 1, 0, 0), (593, .invokevirtual 74, 3, 75, 2), (596, .aload_n 2, 1, 0, 0), (597, .aload_n 0, 1, 0, 0), (598, .iload_n 3, 1, 0, 0), (599, .iconst 1, 1, 1, 0), (600, .iadd, 1, 0, 0), (601, .iaload, 1, 0, 0), (602, .aload_n 0, 1, 0, 0), (603, .iload_n 3, 1, 0, 0), (604, .iconst 2, 1, 2, 0), (605, .iadd, 1, 0, 0), (606, .iaload, 1, 0, 0), (607, .invokevirtual 77, 3, 152, 2)],
  [(610, .if_icmp .eq 539, 3, 1149, 0), (613, .iconst 0, 1, 0, 0), (614, .ireturn, 1, 0, 0), (615, .aload_n 1, 1, 0, 0), (616, .aload_n 0, 1, 0, 0), (617, .iload_n 3, 1, 0, 0), (618, .iconst 1, 1, 1, 0), (619, .iadd, 1, 0, 0), (620, .iaload, 1, 0, 0), (621, .aload_n 0, 1, 0, 0), (622, .iload_n 3, 1, 0, 0), (623, .iconst 2, 1, 2, 0), (624, .iadd, 1, 0, 0), (625, .iaload, 1, 0, 0), (626, .invokevirtual 78, 3, 76, 2), (629, .aload_n 2, 1, 0, 0), (630, .aload_n 0, 1, 0, 0), (631, .iload_n 3, 1, 0, 0), (632, .iconst 1, 1, 1, 0), (633, .iadd, 1, 0, 0), (634, .iaload, 1, 0, 0), (635, .aload_n 0, 1, 0, 0), (636, .iload_n 3, 1, 0, 0), (637, .iconst 2, 1, 2, 0), (638, .iadd, 1, 0, 0), (639, .iaload, 1, 0, 0)],
  [(640, .invokevirtual 81, 3, 153, 2), (643, .if_icmp .eq 506, 3, 1149, 0), (646, .iconst 0, 1, 0, 0), (647, .ireturn, 1, 0, 0), (648, .aload_n 1, 1, 0, 0), (649, .aload_n 0, 1, 0, 0), (650, .iload_n 3, 1, 0, 0), (651, .iconst 1, 1, 1, 0), (652, .iadd, 1, 0, 0), (653, .iaload, 1, 0, 0), (654, .aload_n 0, 1, 0, 0), (655, .iload_n 3, 1, 0, 0), (656, .iconst 2, 1, 2, 0), (657, .iadd, 1, 0, 0), (658, .iaload, 1, 0, 0), (659, .invokevirtual 82, 3, 77, 2), (662, .aload_n 2, 1, 0, 0), (663, .aload_n 0, 1, 0, 0), (664, .iload_n 3, 1, 0, 0), (665, .iconst 1, 1, 1, 0), (666, .iadd, 1, 0, 0), (667, .iaload, 1, 0, 0), (668, .aload_n 0, 1, 0, 0), (669, .iload_n 3, 1, 0, 0), (670, .iconst 2, 1, 2, 0), (671, .iadd, 1, 0, 0)],
  [(672, .iaload, 1, 0, 0), (673, .invokevirtual 85, 3, 154, 2), (676, .if_icmp .eq 473, 3, 1149, 0), (679, .iconst 0, 1, 0, 0), (680, .ireturn, 1, 0, 0), (681, .aload_n 1, 1, 0, 0), (682, .aload_n 0, 1, 0, 0), (683, .iload_n 3, 1, 0, 0), (684, .iconst 1, 1, 1, 0), (685, .iadd, 1, 0, 0), (686, .iaload, 1, 0, 0), (687, .invokevirtual 86, 3, 78, 1), (690, .aload_n 2, 1, 0, 0), (691, .aload_n 0, 1, 0, 0), (692, .iload_n 3, 1, 0, 0), (693, .iconst 1, 1, 1, 0), (694, .iadd, 1, 0, 0), (695, .iaload, 1, 0, 0), (696, .invokevirtual 89, 3, 156, 1), (699, .if_icmp .eq 450, 3, 1149, 0), (702, .iconst 0, 1, 0, 0), (703, .ireturn, 1, 0, 0)],
  [(704, .aload_n 1, 1, 0, 0), (705, .aload_n 0, 1, 0, 0), (706, .iload_n 3, 1, 0, 0), (707, .iconst 1, 1, 1, 0), (708, .iadd, 1, 0, 0), (709, .iaload, 1, 0, 0), (710, .aload_n 0, 1, 0, 0), (711, .iload_n 3, 1, 0, 0), (712, .iconst 2, 1, 2, 0), (713, .iadd, 1, 0, 0), (714, .iaload, 1, 0, 0), (715, .aload_n 0, 1, 0, 0), (716, .iload_n 3, 1, 0, 0), (717, .iconst 3, 1, 3, 0), (718, .iadd, 1, 0, 0), (719, .iaload, 1, 0, 0), (720, .invokevirtual 90, 3, 79, 3), (723, .aload_n 2, 1, 0, 0), (724, .aload_n 0, 1, 0, 0), (725, .iload_n 3, 1, 0, 0), (726, .iconst 1, 1, 1, 0), (727, .iadd, 1, 0, 0), (728, .iaload, 1, 0, 0), (729, .aload_n 0, 1, 0, 0), (730, .iload_n 3, 1, 0, 0), (731, .iconst 2, 1, 2, 0), (732, .iadd, 1, 0, 0), (733, .iaload, 1, 0, 0), (734, .aload_n 0, 1, 0, 0), (735, .iload_n 3, 1, 0, 0)],
  [(736, .iconst 3, 1, 3, 0), (737, .iadd, 1, 0, 0), (738, .iaload, 1, 0, 0), (739, .invokevirtual 93, 3, 160, 3), (742, .if_icmp .eq 407, 3, 1149, 0), (745, .iconst 0, 1, 0, 0), (746, .ireturn, 1, 0, 0), (747, .aload_n 1, 1, 0, 0), (748, .aload_n 0, 1, 0, 0), (749, .iload_n 3, 1, 0, 0), (750, .iconst 1, 1, 1, 0), (751, .iadd, 1, 0, 0), (752, .iaload, 1, 0, 0), (753, .aload_n 0, 1, 0, 0), (754, .iload_n 3, 1, 0, 0), (755, .iconst 2, 1, 2, 0), (756, .iadd, 1, 0, 0), (757, .iaload, 1, 0, 0), (758, .aload_n 0, 1, 0, 0), (759, .iload_n 3, 1, 0, 0), (760, .iconst 3, 1, 3, 0), (761, .iadd, 1, 0, 0), (762, .iaload, 1, 0, 0), (763, .invokevirtual 94, 3, 80, 3), (766, .aload_n 2, 1, 0, 0), (767, .aload_n 0, 1, 0, 0)],
  [(768, .iload_n 3, 1, 0, 0), (769, .iconst 1, 1, 1, 0), (770, .iadd, 1, 0, 0), (771, .iaload, 1, 0, 0), (772, .aload_n 0, 1, 0, 0), (773, .iload_n 3, 1, 0, 0), (774, .iconst 2, 1, 2, 0), (775, .iadd, 1, 0, 0), (776, .iaload, 1, 0, 0), (777, .aload_n 0, 1, 0, 0), (778, .iload_n 3, 1, 0, 0), (779, .iconst 3, 1, 3, 0), (780, .iadd, 1, 0, 0), (781, .iaload, 1, 0, 0), (782, .invokevirtual 97, 3, 161, 3), (785, .if_icmp .eq 364, 3, 1149, 0), (788, .iconst 0, 1, 0, 0), (789, .ireturn, 1, 0, 0), (790, .aload_n 1, 1, 0, 0), (791, .aload_n 0, 1, 0, 0), (792, .iload_n 3, 1, 0, 0), (793, .iconst 1, 1, 1, 0), (794, .iadd, 1, 0, 0), (795, .iaload, 1, 0, 0), (796, .aload_n 0, 1, 0, 0), (797, .iload_n 3, 1, 0, 0), (798, .iconst 2, 1, 2, 0), (799, .iadd, 1, 0, 0)],
  [(800, .iaload, 1, 0, 0), (801, .invokevirtual 98, 3, 81, 2), (804, .aload_n 2, 1, 0, 0), (805, .aload_n 0, 1, 0, 0), (806, .iload_n 3, 1, 0, 0), (807, .iconst 1, 1, 1, 0), (808, .iadd, 1, 0, 0), (809, .iaload, 1, 0, 0), (810, .aload_n 0, 1, 0, 0), (811, .iload_n 3, 1, 0, 0), (812, .iconst 2, 1, 2, 0), (813, .iadd, 1, 0, 0), (814, .iaload, 1, 0, 0), (815, .invokevirtual 101, 3, 163, 2), (818, .if_icmp .eq 331, 3, 1149, 0), (821, .iconst 0, 1, 0, 0), (822, .ireturn, 1, 0, 0), (823, .aload_n 1, 1, 0, 0), (824, .aload_n 0, 1, 0, 0), (825, .iload_n 3, 1, 0, 0), (826, .iconst 1, 1, 1, 0), (827, .iadd, 1, 0, 0), (828, .iaload, 1, 0, 0), (829, .invokevirtual 102, 3, 82, 1)],
  [(832, .aload_n 2, 1, 0, 0), (833, .aload_n 0, 1, 0, 0), (834, .iload_n 3, 1, 0, 0), (835, .iconst 1, 1, 1, 0), (836, .iadd, 1, 0, 0), (837, .iaload, 1, 0, 0), (838, .invokevirtual 105, 3, 164, 1), (841, .if_icmp .eq 308, 3, 1149, 0), (844, .iconst 0, 1, 0, 0), (845, .ireturn, 1, 0, 0), (846, .aload_n 1, 1, 0, 0), (847, .aload_n 0, 1, 0, 0), (848, .iload_n 3, 1, 0, 0), (849, .iconst 1, 1, 1, 0), (850, .iadd, 1, 0, 0), (851, .iaload, 1, 0, 0), (852, .aload_n 0, 1, 0, 0), (853, .iload_n 3, 1, 0, 0), (854, .iconst 2, 1, 2, 0), (855, .iadd, 1, 0, 0), (856, .iaload, 1, 0, 0), (857, .invokevirtual 106, 3, 83, 2), (860, .aload_n 2, 1, 0, 0), (861, .aload_n 0, 1, 0, 0), (862, .iload_n 3, 1, 0, 0), (863, .iconst 1, 1, 1, 0)],
  [(864, .iadd, 1, 0, 0), (865, .iaload, 1, 0, 0), (866, .aload_n 0, 1, 0, 0), (867, .iload_n 3, 1, 0, 0), (868, .iconst 2, 1, 2, 0), (869, .iadd, 1, 0, 0), (870, .iaload, 1, 0, 0), (871, .invokevirtual 109, 3, 165, 2), (874, .if_icmp .eq 275, 3, 1149, 0), (877, .iconst 0, 1, 0, 0), (878, .ireturn, 1, 0, 0), (879, .aload_n 1, 1, 0, 0), (880, .aload_n 0, 1, 0, 0), (881, .iload_n 3, 1, 0, 0), (882, .iconst 1, 1, 1, 0), (883, .iadd, 1, 0, 0), (884, .iaload, 1, 0, 0), (885, .aload_n 0, 1, 0, 0), (886, .iload_n 3, 1, 0, 0), (887, .iconst 2, 1, 2, 0), (888, .iadd, 1, 0, 0), (889, .iaload, 1, 0, 0), (890, .aload_n 0, 1, 0, 0), (891, .iload_n 3, 1, 0, 0), (892, .iconst 3, 1, 3, 0), (893, .iadd, 1, 0, 0), (894, .iaload, 1, 0, 0), (895, .aload_n 0, 1, 0, 0)],
  [(896, .iload_n 3, 1, 0, 0), (897, .iconst 4, 1, 4, 0), (898, .iadd, 1, 0, 0), (899, .iaload, 1, 0, 0), (900, .invokevirtual 110, 3, 84, 4), (903, .aload_n 2, 1, 0, 0), (904, .aload_n 0, 1, 0, 0), (905, .iload_n 3, 1, 0, 0), (906, .iconst 1, 1, 1, 0), (907, .iadd, 1, 0, 0), (908, .iaload, 1, 0, 0), (909, .aload_n 0, 1, 0, 0), (910, .iload_n 3, 1, 0, 0), (911, .iconst 2, 1, 2, 0), (912, .iadd, 1, 0, 0), (913, .iaload, 1, 0, 0), (914, .aload_n 0, 1, 0, 0), (915, .iload_n 3, 1, 0, 0), (916, .iconst 3, 1, 3, 0), (917, .iadd, 1, 0, 0), (918, .iaload, 1, 0, 0), (919, .aload_n 0, 1, 0, 0), (920, .iload_n 3, 1, 0, 0), (921, .iconst 4, 1, 4, 0), (922, .iadd, 1, 0, 0), (923, .iaload, 1, 0, 0), (924, .invokevirtual 114, 3, 166, 4), (927, .if_icmp .eq 222, 3, 1149, 0)],
  [(930, .iconst 0, 1, 0, 0), (931, .ireturn, 1, 0, 0), (932, .aload_n 1, 1, 0, 0), (933, .aload_n 0, 1, 0, 0), (934, .iload_n 3, 1, 0, 0), (935, .iconst 1, 1, 1, 0), (936, .iadd, 1, 0, 0), (937, .iaload, 1, 0, 0), (938, .invokevirtual 115, 3, 85, 1), (941, .aload_n 2, 1, 0, 0), (942, .aload_n 0, 1, 0, 0), (943, .iload_n 3, 1, 0, 0), (944, .iconst 1, 1, 1, 0), (945, .iadd, 1, 0, 0), (946, .iaload, 1, 0, 0), (947, .invokevirtual 118, 3, 167, 1), (950, .if_icmp .eq 199, 3, 1149, 0), (953, .iconst 0, 1, 0, 0), (954, .ireturn, 1, 0, 0), (955, .aload_n 1, 1, 0, 0), (956, .aload_n 0, 1, 0, 0), (957, .iload_n 3, 1, 0, 0), (958, .iconst 1, 1, 1, 0), (959, .iadd, 1, 0, 0)],
  [(960, .iaload, 1, 0, 0), (961, .invokevirtual 119, 3, 86, 1), (964, .aload_n 2, 1, 0, 0), (965, .aload_n 0, 1, 0, 0), (966, .iload_n 3, 1, 0, 0), (967, .iconst 1, 1, 1, 0), (968, .iadd, 1, 0, 0), (969, .iaload, 1, 0, 0), (970, .invokevirtual 122, 3, 168, 1), (973, .if_icmp .eq 176, 3, 1149, 0), (976, .iconst 0, 1, 0, 0), (977, .ireturn, 1, 0, 0), (978, .aload_n 1, 1, 0, 0), (979, .aload_n 0, 1, 0, 0), (980, .iload_n 3, 1, 0, 0), (981, .iconst 1, 1, 1, 0), (982, .iadd, 1, 0, 0), (983, .iaload, 1, 0, 0), (984, .invokevirtual 123, 3, 87, 1), (987, .aload_n 2, 1, 0, 0), (988, .aload_n 0, 1, 0, 0), (989, .iload_n 3, 1, 0, 0), (990, .iconst 1, 1, 1, 0), (991, .iadd, 1, 0, 0)],
  [(992, .iaload, 1, 0, 0), (993, .invokevirtual 126, 3, 169, 1), (996, .if_icmp .eq 153, 3, 1149, 0), (999, .iconst 0, 1, 0, 0), (1000, .ireturn, 1, 0, 0), (1001, .aload_n 1, 1, 0, 0), (1002, .aload_n 0, 1, 0, 0), (1003, .iload_n 3, 1, 0, 0), (1004, .iconst 1, 1, 1, 0), (1005, .iadd, 1, 0, 0), (1006, .iaload, 1, 0, 0), (1007, .invokevirtual 127, 3, 88, 1), (1010, .aload_n 2, 1, 0, 0), (1011, .aload_n 0, 1, 0, 0), (1012, .iload_n 3, 1, 0, 0), (1013, .iconst 1, 1, 1, 0), (1014, .iadd, 1, 0, 0), (1015, .iaload, 1, 0, 0), (1016, .invokevirtual 130, 3, 170, 1), (1019, .if_icmp .eq 130, 3, 1149, 0), (1022, .iconst 0, 1, 0, 0), (1023, .ireturn, 1, 0, 0)],
  [(1024, .aload_n 1, 1, 0, 0), (1025, .aload_n 0, 1, 0, 0), (1026, .iload_n 3, 1, 0, 0), (1027, .iconst 1, 1, 1, 0), (1028, .iadd, 1, 0, 0), (1029, .iaload, 1, 0, 0), (1030, .aload_n 0, 1, 0, 0), (1031, .iload_n 3, 1, 0, 0), (1032, .iconst 2, 1, 2, 0), (1033, .iadd, 1, 0, 0), (1034, .iaload, 1, 0, 0), (1035, .invokevirtual 131, 3, 89, 2), (1038, .aload_n 2, 1, 0, 0), (1039, .aload_n 0, 1, 0, 0), (1040, .iload_n 3, 1, 0, 0), (1041, .iconst 1, 1, 1, 0), (1042, .iadd, 1, 0, 0), (1043, .iaload, 1, 0, 0), (1044, .aload_n 0, 1, 0, 0), (1045, .iload_n 3, 1, 0, 0), (1046, .iconst 2, 1, 2, 0), (1047, .iadd, 1, 0, 0), (1048, .iaload, 1, 0, 0), (1049, .invokevirtual 134, 3, 172, 2), (1052, .if_icmp .eq 97, 3, 1149, 0), (1055, .iconst 0, 1, 0, 0)],
  [(1056, .ireturn, 1, 0, 0), (1057, .aload_n 1, 1, 0, 0), (1058, .aload_n 0, 1, 0, 0), (1059, .iload_n 3, 1, 0, 0), (1060, .iconst 1, 1, 1, 0), (1061, .iadd, 1, 0, 0), (1062, .iaload, 1, 0, 0), (1063, .aload_n 0, 1, 0, 0), (1064, .iload_n 3, 1, 0, 0), (1065, .iconst 2, 1, 2, 0), (1066, .iadd, 1, 0, 0), (1067, .iaload, 1, 0, 0), (1068, .invokevirtual 135, 3, 90, 2), (1071, .aload_n 2, 1, 0, 0), (1072, .aload_n 0, 1, 0, 0), (1073, .iload_n 3, 1, 0, 0), (1074, .iconst 1, 1, 1, 0), (1075, .iadd, 1, 0, 0), (1076, .iaload, 1, 0, 0), (1077, .aload_n 0, 1, 0, 0), (1078, .iload_n 3, 1, 0, 0), (1079, .iconst 2, 1, 2, 0), (1080, .iadd, 1, 0, 0), (1081, .iaload, 1, 0, 0), (1082, .invokevirtual 138, 3, 186, 2), (1085, .if_icmp .eq 64, 3, 1149, 0)],
  [(1088, .iconst 0, 1, 0, 0), (1089, .ireturn, 1, 0, 0), (1090, .aload_n 1, 1, 0, 0), (1091, .aload_n 0, 1, 0, 0), (1092, .iload_n 3, 1, 0, 0), (1093, .iconst 1, 1, 1, 0), (1094, .iadd, 1, 0, 0), (1095, .iaload, 1, 0, 0), (1096, .invokevirtual 139, 3, 91, 1), (1099, .aload_n 2, 1, 0, 0), (1100, .aload_n 0, 1, 0, 0), (1101, .iload_n 3, 1, 0, 0), (1102, .iconst 1, 1, 1, 0), (1103, .iadd, 1, 0, 0), (1104, .iaload, 1, 0, 0), (1105, .invokevirtual 142, 3, 187, 1), (1108, .if_icmp .eq 41, 3, 1149, 0), (1111, .iconst 0, 1, 0, 0), (1112, .ireturn, 1, 0, 0), (1113, .aload_n 1, 1, 0, 0), (1114, .aload_n 0, 1, 0, 0), (1115, .iload_n 3, 1, 0, 0), (1116, .iconst 1, 1, 1, 0), (1117, .iadd, 1, 0, 0), (1118, .iaload, 1, 0, 0), (1119, .invokevirtual 143, 3, 92, 1)],
  [(1122, .aload_n 2, 1, 0, 0), (1123, .aload_n 0, 1, 0, 0), (1124, .iload_n 3, 1, 0, 0), (1125, .iconst 1, 1, 1, 0), (1126, .iadd, 1, 0, 0), (1127, .iaload, 1, 0, 0), (1128, .invokevirtual 146, 3, 188, 1), (1131, .if_icmp .eq 18, 3, 1149, 0), (1134, .iconst 0, 1, 0, 0), (1135, .ireturn, 1, 0, 0), (1136, .aload_n 1, 1, 0, 0), (1137, .invokevirtual 147, 3, 93, 0), (1140, .aload_n 2, 1, 0, 0), (1141, .invokevirtual 150, 3, 111, 0), (1144, .if_icmp .eq 5, 3, 1149, 0), (1147, .iconst 0, 1, 0, 0), (1148, .ireturn, 1, 0, 0), (1149, .iinc 3 6, 3, 6, 0)],
  [(1152, .goto (-1134), 3, 18, 0), (1155, .iconst 1, 1, 1, 0), (1156, .ireturn, 1, 0, 0)]]
def tm_kL : List (List (List (List tm_E))) := [
  [tm_k0, tm_k1, tm_k2, tm_k3, tm_k4, tm_k5, tm_k6, tm_k7, tm_k8, tm_k9, tm_k10, tm_k11, tm_k12, tm_k13, tm_k14, tm_k15],
  [tm_k16, tm_k17, tm_k18, tm_k19, tm_k20, tm_k21, tm_k22, tm_k23, tm_k24, tm_k25, tm_k26, tm_k27, tm_k28, tm_k29, tm_k30, tm_k31],
  [tm_k32, tm_k33, tm_k34, tm_k35, tm_k36, tm_k37, tm_k38, tm_k39, tm_k40, tm_k41, tm_k42, tm_k43, tm_k44, tm_k45, tm_k46, tm_k47],
  [tm_k48, tm_k49, tm_k50, tm_k51, tm_k52, tm_k53, tm_k54, tm_k55, tm_k56, tm_k57, tm_k58, tm_k59, tm_k60, tm_k61, tm_k62, tm_k63],
  [tm_k64, tm_k65, tm_k66, tm_k67, tm_k68, tm_k69, tm_k70, tm_k71, tm_k72, tm_k73, tm_k74, tm_k75, tm_k76, tm_k77, tm_k78, tm_k79],
  [tm_k80, tm_k81, tm_k82, tm_k83, tm_k84, tm_k85, tm_k86, tm_k87, tm_k88, tm_k89, tm_k90, tm_k91, tm_k92, tm_k93, tm_k94, tm_k95],
  [tm_k96, tm_k97, tm_k98, tm_k99, tm_k100, tm_k101, tm_k102, tm_k103, tm_k104, tm_k105, tm_k106, tm_k107, tm_k108, tm_k109, tm_k110, tm_k111],
  [tm_k112, tm_k113, tm_k114, tm_k115, tm_k116, tm_k117, tm_k118, tm_k119, tm_k120, tm_k121, tm_k122, tm_k123, tm_k124, tm_k125, tm_k126, tm_k127],
  [tm_k128, tm_k129, tm_k130, tm_k131, tm_k132, tm_k133, tm_k134, tm_k135, tm_k136, tm_k137, tm_k138, tm_k139, tm_k140, tm_k141, tm_k142, tm_k143],
  [tm_k144, tm_k145, tm_k146, tm_k147, tm_k148, tm_k149, tm_k150, tm_k151, tm_k152, tm_k153, tm_k154, tm_k155, tm_k156, tm_k157, tm_k158, tm_k159],
  [tm_k160, tm_k161, tm_k162, tm_k163, tm_k164, tm_k165, tm_k166, tm_k167, tm_k168, tm_k169, tm_k170, tm_k171, tm_k172, tm_k173, tm_k174, tm_k175],
  [tm_k176, tm_k177, tm_k178, tm_k179, tm_k180, tm_k181, tm_k182, tm_k183, tm_k184, tm_k185, tm_k186, tm_k187, tm_k188, tm_k189, tm_k190, tm_k191]]
def tm_ks (J : Nat) : List (List tm_E) := (tm_kL.getD (J / 16) []).getD (J % 16) []
def tm_fnd (pc : Nat) : List tm_E → Option (Instr × Nat × Nat × Nat)
  | [] => none
  | e :: r => match Nat.beq e.1 pc with
    | true => some e.2
    | false => tm_fnd pc r
def tm_at (J pc : Nat) : Option (Instr × Nat × Nat × Nat) := tm_fnd pc ((tm_ks J).getD (pc / 32) [])
-- what the constant pools name: (own class, entry, class or method, field or parameters, place in tables_1)
def tm_fl : List (Nat × Nat × Nat × Nat × Nat) := [(4, 9, 4, 0, 29), (4, 15, 4, 1, 30), (6, 105, 4, 1, 31), (6, 125, 4, 2, 32), (4, 108, 4, 2, 33), (6, 112, 4, 3, 34), (4, 111, 4, 3, 35), (4, 19, 4, 4, 36), (4, 45, 4, 5, 37), (1, 40, 1, 0, 58), (4, 48, 1, 0, 59), (6, 122, 1, 0, 60), (4, 51, 1, 1, 61), (1, 72, 1, 1, 62), (3, 97, 1, 1, 63), (4, 54, 1, 2, 64), (1, 75, 1, 2, 65), (3, 100, 1, 2, 66), (1, 43, 1, 3, 67), (4, 64, 1, 3, 68), (3, 62, 1, 3, 69), (6, 145, 1, 3, 70), (1, 50, 1, 4, 71), (3, 37, 1, 4, 72), (4, 86, 1, 4, 73), (6, 148, 1, 4, 74), (1, 9, 1, 5, 75), (4, 67, 1, 5, 76), (6, 175, 1, 5, 77), (1, 15, 1, 6, 78), (4, 70, 1, 6, 79), (6, 178, 1, 6, 80), (1, 18, 1, 7, 81), (5, 27, 1, 7, 82), (4, 80, 1, 7, 83), (6, 260, 1, 7, 84), (1, 21, 1, 8, 85), (5, 39, 1, 8, 86), (4, 89, 1, 8, 87), (6, 163, 1, 8, 88), (1, 24, 1, 9, 89), (4, 92, 1, 9, 90), (6, 166, 1, 9, 91), (1, 27, 1, 10, 92), (5, 32, 1, 10, 93), (4, 102, 1, 10, 94), (6, 169, 1, 10, 95), (1, 30, 1, 11, 96), (0, 42, 1, 11, 97), (4, 99, 1, 11, 98), (3, 80, 1, 11, 99), (6, 154, 1, 11, 100), (0, 31, 1, 12, 101), (1, 53, 1, 12, 102), (3, 55, 1, 12, 103), (4, 73, 1, 12, 104), (6, 142, 1, 12, 105), (0, 36, 1, 13, 106), (1, 56, 1, 13, 107), (6, 172, 1, 13, 108), (0, 39, 1, 14, 109), (1, 59, 1, 14, 110), (6, 133, 1, 14, 111), (1, 33, 1, 15, 112), (1, 36, 1, 16, 113), (0, 24, 0, 0, 156), (6, 160, 0, 0, 157), (0, 28, 0, 1, 158), (0, 9, 0, 2, 159), (0, 15, 0, 3, 160), (0, 18, 0, 4, 161), (0, 21, 0, 5, 162), (3, 91, 3, 0, 184), (6, 233, 3, 0, 185), (3, 94, 3, 1, 186), (6, 236, 3, 1, 187), (3, 84, 3, 2, 188), (6, 239, 3, 2, 189), (3, 106, 3, 3, 190), (6, 291, 3, 3, 191), (3, 109, 3, 4, 192), (6, 294, 3, 4, 193), (3, 112, 3, 5, 194), (6, 297, 3, 5, 195), (3, 12, 3, 6, 196), (3, 18, 3, 7, 197), (5, 9, 5, 0, 221), (6, 276, 5, 0, 222), (5, 15, 5, 1, 223), (6, 275, 5, 1, 224), (2, 9, 2, 0, 235), (6, 82, 2, 0, 236), (2, 15, 2, 1, 237), (6, 74, 2, 1, 238), (2, 19, 2, 2, 239), (6, 89, 2, 2, 240), (2, 23, 2, 3, 241), (6, 78, 2, 3, 242), (6, 11, 6, 0, 252), (6, 18, 6, 1, 253), (6, 25, 6, 2, 254), (6, 29, 6, 3, 255), (6, 32, 6, 4, 256), (6, 39, 6, 5, 257), (6, 46, 6, 6, 258), (6, 53, 6, 7, 259), (6, 282, 6, 8, 260), (7, 7, 7, 0, 736), (7, 13, 7, 1, 737), (7, 16, 7, 2, 738), (7, 43, 7, 3, 739), (7, 19, 7, 4, 740), (7, 63, 7, 5, 741), (7, 22, 7, 6, 742), (7, 26, 7, 7, 743), (7, 129, 7, 8, 744), (7, 29, 7, 9, 745), (7, 39, 7, 10, 746), (7, 70, 7, 11, 747), (7, 73, 7, 12, 748), (7, 83, 7, 13, 749), (7, 76, 7, 14, 750), (7, 86, 7, 15, 751), (7, 89, 7, 16, 752), (7, 122, 7, 17, 753), (7, 144, 7, 18, 754), (7, 147, 7, 19, 755), (7, 33, 7, 20, 756), (7, 150, 7, 21, 757), (7, 153, 7, 22, 758), (7, 36, 7, 23, 759), (7, 224, 7, 24, 760)]
def tm_ml : List (Nat × Nat × Nat × Nat × Nat) := [(11, 13, 61, 3, 280), (6, 58, 94, 2, 284), (6, 63, 95, 1, 288), (6, 67, 28, 2, 293), (2, 26, 190, 2, 297), (6, 71, 96, 1, 300), (11, 18, 62, 3, 304), (6, 86, 29, 1, 308), (11, 22, 63, 5, 312), (6, 92, 30, 2, 316), (6, 95, 999, 5, 320), (11, 27, 64, 1, 323), (11, 32, 65, 1, 327), (6, 101, 44, 1, 331), (11, 36, 66, 0, 336), (6, 107, 45, 1, 340), (4, 22, 6, 0, 344), (4, 27, 46, 1, 348), (4, 37, 52, 1, 352), (4, 57, 55, 2, 356), (4, 41, 53, 2, 360), (4, 105, 54, 1, 364), (4, 31, 47, 1, 367), (4, 60, 48, 2, 371), (4, 34, 49, 1, 375), (4, 76, 51, 1, 379), (4, 83, 50, 2, 382), (4, 95, 4, 0, 386), (6, 115, 7, 1, 391), (1, 62, 999, 5, 395), (1, 68, 8, 1, 396), (6, 119, 0, 0, 400), (11, 41, 67, 0, 404), (11, 45, 68, 1, 408), (6, 128, 3, 0, 412), (6, 136, 1, 1, 417), (0, 43, 999, 5, 421), (0, 49, 996, 2, 422), (6, 139, 27, 0, 425), (1, 127, 19, 0, 429), (1, 95, 190, 2, 433), (1, 101, 20, 1, 434), (1, 82, 11, 1, 438), (1, 105, 996, 2, 442), (1, 78, 10, 1, 443), (1, 130, 24, 2, 447), (1, 120, 23, 2, 451), (1, 117, 12, 2, 455), (1, 124, 22, 2, 459), (1, 111, 21, 2, 463), (1, 114, 997, 2, 467), (1, 92, 17, 1, 470), (1, 134, 25, 3, 474), (1, 138, 26, 1, 478), (11, 49, 69, 1, 482), (11, 53, 70, 2, 486), (6, 151, 5, 1, 490), (1, 46, 4, 0, 494), (11, 58, 71, 0, 495), (6, 157, 2, 1, 499), (11, 62, 72, 2, 503), (11, 66, 73, 2, 507), (11, 70, 74, 1, 511), (6, 181, 14, 1, 515), (11, 74, 75, 2, 519), (6, 184, 19, 0, 523), (6, 187, 21, 2, 524), (11, 78, 76, 2, 526), (6, 192, 24, 2, 530), (11, 82, 77, 2, 531), (6, 196, 31, 2, 535), (3, 21, 7, 1, 539), (3, 25, 27, 0, 540), (6, 200, 18, 0, 541), (6, 204, 16, 0, 545), (1, 89, 15, 1, 549), (1, 86, 14, 1, 553), (11, 86, 78, 1, 554), (6, 207, 32, 1, 558), (3, 29, 9, 1, 563), (3, 33, 8, 1, 567), (6, 211, 33, 2, 568), (11, 90, 79, 3, 572), (6, 215, 34, 4, 576), (3, 41, 189, 1, 581), (3, 47, 35, 5, 587), (3, 51, 13, 3, 591), (6, 219, 98, 2, 595), (6, 286, 189, 1, 598), (11, 94, 80, 3, 599), (11, 98, 81, 2, 603), (6, 222, 36, 3, 607), (3, 58, 38, 2, 611), (3, 72, 15, 1, 615), (3, 65, 37, 5, 616), (3, 68, 12, 2, 620), (11, 102, 82, 1, 621), (6, 226, 39, 2, 625), (3, 76, 4, 0, 629), (11, 106, 83, 2, 630), (6, 229, 40, 2, 634), (3, 87, 41, 4, 638), (3, 103, 16, 0, 642), (11, 110, 84, 4, 643), (6, 242, 99, 3, 647), (6, 246, 100, 4, 651), (6, 250, 42, 3, 654), (6, 254, 101, 1, 658), (11, 115, 85, 1, 662), (6, 257, 43, 2, 666), (11, 119, 86, 1, 670), (11, 123, 87, 1, 674), (11, 127, 88, 1, 678), (11, 131, 89, 2, 682), (6, 263, 102, 2, 686), (11, 135, 90, 2, 689), (6, 266, 57, 1, 693), (6, 269, 58, 1, 696), (6, 272, 59, 3, 699), (5, 19, 60, 5, 703), (5, 23, 56, 1, 706), (5, 35, 58, 1, 710), (5, 42, 14, 1, 711), (5, 45, 189, 1, 712), (5, 50, 57, 1, 713), (11, 139, 91, 1, 714), (11, 143, 92, 1, 718), (6, 279, 97, 0, 722), (11, 147, 93, 0, 726), (11, 17, 107, 3, 814), (7, 51, 106, 1, 818), (7, 47, 103, 3, 821), (7, 56, 104, 1, 825), (7, 60, 105, 1, 830), (11, 21, 108, 3, 834), (11, 26, 109, 5, 838), (11, 31, 110, 1, 842), (11, 150, 111, 0, 846), (11, 35, 118, 1, 850), (11, 40, 128, 0, 855), (7, 109, 113, 2, 859), (7, 92, 120, 0, 863), (7, 79, 119, 0, 867), (7, 103, 122, 1, 871), (7, 95, 121, 1, 875), (7, 106, 124, 3, 879), (7, 99, 123, 3, 883), (7, 116, 125, 0, 887), (7, 66, 112, 1, 891), (7, 119, 127, 0, 895), (7, 113, 126, 1, 899), (7, 126, 114, 2, 903), (11, 44, 129, 0, 907), (11, 48, 144, 1, 911), (7, 175, 143, 0, 915), (7, 180, 142, 1, 921), (7, 133, 117, 2, 925), (7, 183, 135, 0, 929), (7, 172, 140, 0, 933), (7, 168, 139, 2, 937), (7, 162, 138, 2, 941), (7, 165, 137, 2, 945), (7, 159, 136, 2, 949), (7, 156, 131, 3, 953), (7, 137, 132, 2, 957), (11, 52, 145, 1, 961), (7, 186, 115, 1, 965), (11, 57, 147, 2, 969), (7, 189, 116, 1, 973), (7, 192, 146, 1, 977), (11, 61, 148, 0, 981), (11, 65, 149, 2, 985), (11, 69, 150, 2, 989), (11, 73, 151, 1, 993), (7, 141, 130, 2, 997), (11, 77, 152, 2, 1001), (11, 81, 153, 2, 1005), (11, 85, 154, 2, 1009), (7, 195, 141, 1, 1013), (7, 198, 133, 1, 1017), (7, 201, 134, 1, 1021), (11, 89, 156, 1, 1025), (7, 204, 155, 0, 1029), (11, 93, 160, 3, 1033), (7, 214, 159, 4, 1037), (7, 207, 157, 1, 1041), (7, 210, 158, 4, 1044), (11, 97, 161, 3, 1048), (11, 101, 163, 2, 1052), (7, 218, 162, 2, 1056), (11, 105, 164, 1, 1060), (11, 109, 165, 2, 1064), (11, 114, 166, 4, 1068), (11, 118, 167, 1, 1072), (11, 122, 168, 1, 1076), (11, 126, 169, 1, 1080), (11, 130, 170, 1, 1084), (11, 134, 172, 2, 1088), (7, 221, 171, 2, 1092), (11, 138, 186, 2, 1095), (7, 263, 185, 1, 1099), (7, 260, 184, 1, 1103), (7, 227, 173, 1, 1107), (7, 257, 183, 1, 1111), (7, 233, 174, 1, 1115), (7, 254, 182, 1, 1119), (7, 239, 176, 1, 1123), (7, 230, 175, 1, 1127), (7, 245, 180, 1, 1131), (7, 248, 179, 1, 1135), (7, 251, 181, 1, 1139), (7, 242, 178, 1, 1143), (7, 236, 177, 1, 1147), (11, 142, 187, 1, 1151), (11, 146, 188, 1, 1155)]
def tm_kl : List (Nat × Nat × Nat × Nat × Nat) := [(6, 62, 1000001, 1, 287), (6, 285, 1000010, 1, 292), (6, 106, 1000003, 1, 335), (6, 111, 1000100, 1, 390), (6, 132, 1000002, 1, 416), (6, 191, 1000000, 1, 525), (3, 28, 1000000, 0, 562), (3, 36, 1000000, 1, 580), (8, 265, 1431655765, 0, 584), (8, 266, 858993459, 0, 585), (8, 267, 252645135, 0, 586), (7, 55, 1000001, 1, 824), (7, 46, 1000010, 1, 829), (7, 69, 1000003, 1, 854), (7, 125, 1000100, 1, 902), (7, 179, 1000002, 1, 919), (7, 132, 1000000, 1, 920)]
def tm_lk (own idx : Nat) : List (Nat × Nat × Nat × Nat × Nat) → Option (Nat × Nat)
  | [] => none
  | e :: r => if e.1 = own ∧ e.2.1 = idx then some (e.2.2.1, e.2.2.2.1) else tm_lk own idx r
-- places in lw_tbl of a method's words: code; instance or static; selects; its class initialized
def tm_plL : List (List (Nat × Nat × Nat × Nat)) := [
  [(477, 475, 476, 78), (494, 492, 493, 78), (576, 574, 575, 78), (489, 487, 488, 77), (463, 461, 462, 77), (567, 565, 566, 77), (421, 419, 420, 77), (468, 466, 467, 77), (473, 471, 472, 77), (640, 638, 639, 77), (520, 519, 12, 77), (515, 514, 11, 77), (532, 530, 531, 77), (668, 666, 667, 77), (592, 590, 591, 77), (626, 624, 625, 77)],
  [(622, 620, 621, 77), (547, 546, 15, 77), (618, 616, 617, 77), (506, 504, 505, 77), (511, 510, 10, 77), (540, 538, 539, 77), (536, 535, 14, 77), (528, 527, 13, 77), (524, 522, 523, 77), (551, 550, 16, 77), (555, 554, 17, 77), (502, 500, 501, 77), (370, 368, 369, 81), (385, 383, 384, 81), (393, 391, 392, 81), (612, 610, 611, 79)],
  [(635, 633, 634, 79), (645, 643, 644, 79), (653, 651, 652, 79), (664, 663, 18, 79), (684, 682, 683, 79), (693, 692, 20, 79), (688, 687, 19, 79), (702, 700, 701, 79), (711, 709, 710, 79), (715, 714, 21, 79), (731, 729, 730, 79), (743, 741, 742, 79), (408, 406, 407, 76), (417, 415, 416, 76), (425, 424, 2, 76), (444, 443, 6, 76)],
  [(448, 447, 7, 76), (452, 451, 8, 76), (459, 458, 9, 76), (455, 454, 0, 76), (429, 428, 3, 76), (437, 436, 5, 76), (440, 439, 0, 76), (433, 432, 4, 76), (783, 782, 24, 80), (769, 768, 0, 80), (772, 771, 0, 80), (776, 774, 775, 80), (779, 778, 0, 80), (357, 355, 356, 75), (381, 379, 380, 75), (389, 387, 388, 75)],
  [(400, 398, 399, 75), (404, 402, 403, 75), (413, 411, 412, 75), (481, 479, 480, 75), (485, 483, 484, 75), (559, 557, 558, 75), (563, 561, 562, 75), (572, 570, 571, 75), (580, 578, 579, 75), (584, 582, 583, 75), (588, 586, 587, 75), (596, 594, 595, 75), (603, 601, 602, 75), (608, 606, 607, 75), (631, 629, 630, 75), (649, 647, 648, 75)],
  [(676, 674, 675, 75), (680, 678, 679, 75), (698, 696, 697, 75), (707, 705, 706, 75), (720, 718, 719, 75), (739, 737, 738, 75), (747, 745, 746, 75), (751, 749, 750, 75), (755, 753, 754, 75), (759, 757, 758, 75), (766, 764, 765, 75), (791, 789, 790, 75), (795, 793, 794, 75), (803, 801, 802, 75), (360, 359, 0, 75), (365, 364, 0, 75)],
  [(377, 376, 1, 75), (799, 798, 25, 75), (671, 670, 0, 75), (724, 723, 22, 75), (727, 726, 0, 75), (735, 734, 23, 75), (762, 761, 0, 75), (897, 896, 0, 82), (902, 901, 26, 82), (907, 906, 27, 82), (894, 893, 0, 82), (891, 889, 890, 82), (911, 909, 910, 82), (915, 913, 914, 82), (919, 917, 918, 82), (923, 921, 922, 82)],
  [(968, 967, 36, 82), (936, 935, 28, 82), (980, 979, 38, 82), (1042, 1041, 50, 82), (1050, 1049, 51, 82), (1002, 1001, 41, 82), (927, 925, 926, 82), (944, 943, 30, 82), (940, 939, 29, 82), (952, 951, 32, 82), (948, 947, 31, 82), (960, 959, 34, 82), (956, 955, 33, 82), (964, 963, 35, 82), (975, 974, 0, 82), (972, 971, 37, 82)],
  [(932, 930, 931, 82), (984, 982, 983, 82), (1074, 1073, 53, 82), (1030, 1029, 48, 82), (1034, 1033, 49, 82), (1094, 1093, 55, 82), (1098, 1097, 56, 82), (1006, 1005, 42, 82), (1026, 1025, 47, 82), (1022, 1021, 46, 82), (1018, 1017, 45, 82), (1014, 1013, 44, 82), (1010, 1009, 43, 82), (1090, 1089, 54, 82), (998, 997, 40, 82), (992, 991, 39, 82)],
  [(988, 986, 987, 82), (1038, 1036, 1037, 82), (1054, 1053, 52, 82), (1046, 1044, 1045, 82), (1058, 1056, 1057, 82), (1062, 1060, 1061, 82), (1066, 1064, 1065, 82), (1070, 1068, 1069, 82), (1078, 1076, 1077, 82), (1082, 1080, 1081, 82), (1086, 1084, 1085, 82), (1106, 1105, 57, 82), (1102, 1100, 1101, 82), (1117, 1116, 0, 82), (1121, 1120, 59, 82), (1114, 1113, 58, 82)],
  [(1110, 1108, 1109, 82), (1125, 1123, 1124, 82), (1133, 1132, 60, 82), (1129, 1127, 1128, 82), (1137, 1135, 1136, 82), (1141, 1139, 1140, 82), (1145, 1143, 1144, 82), (1149, 1147, 1148, 82), (1153, 1151, 1152, 82), (1157, 1155, 1156, 82), (1161, 1159, 1160, 82), (1168, 1167, 0, 82), (1165, 1163, 1164, 82), (1184, 1183, 63, 82), (1192, 1191, 65, 82), (1204, 1203, 68, 82)],
  [(1200, 1199, 67, 82), (1224, 1223, 73, 82), (1220, 1219, 72, 82), (1212, 1211, 70, 82), (1208, 1207, 69, 82), (1216, 1215, 71, 82), (1196, 1195, 66, 82), (1188, 1187, 64, 82), (1180, 1179, 62, 82), (1176, 1175, 61, 82), (1172, 1170, 1171, 82), (1228, 1226, 1227, 82), (1232, 1230, 1231, 82), (657, 656, 0, 86), (373, 372, 0, 83), (0, 0, 0, 0)]]
def tm_pl (J : Nat) : Nat × Nat × Nat × Nat := (tm_plL.getD (J / 16) []).getD (J % 16) (0, 0, 0, 0)
def tm_st (J : Nat) : Bool := match J with
  | 51 => true
  | 54 => true
  | 57 => true
  | 58 => true
  | 60 => true
  | 94 => true
  | 98 => true
  | 100 => true
  | 102 => true
  | 103 => true
  | 106 => true
  | 126 => true
  | 157 => true
  | 171 => true
  | 189 => true
  | 190 => true
  | 191 => true
  | _ => false
end
section
/-! the data against the statement: every instruction is what decode says, every name is the tables' -/
def tm_k (a b : Nat) : Int32 := match b with
  | 0 => nI a
  | _ => -(nI a)
def tm_ok (own pc : Nat) (ins : Instr) (len a b : Nat) : Bool := match ins with
  | .iconst i => decide (Int32.ofInt i = tm_k a b) && decide (len = 1)
  | .bipush i => decide ((Int8.ofInt i).toInt32 = tm_k a b) && decide (len = 2)
  | .sipush i => decide ((Int16.ofInt i).toInt32 = tm_k a b) && decide (len = 3)
  | .ldc x => decide (tm_lk own x tm_kl = some (a, b)) && decide (len = 2)
  | .ldc_w x => decide (tm_lk own x tm_kl = some (a, b)) && decide (len = 3)
  | .iinc _ n => decide (Int32.ofInt n = tm_k a b) && decide (len = 3)
  | .iload _ => decide (len = 2)
  | .istore _ => decide (len = 2)
  | .aload _ => decide (len = 2)
  | .astore _ => decide (len = 2)
  | .getfield x => decide (tm_lk own x tm_fl = some (a, b)) && decide (a < 8) && decide (b < tm_N a) && decide (len = 3)
  | .putfield x => decide (tm_lk own x tm_fl = some (a, b)) && decide (a < 8) && decide (b < tm_N a) && decide (len = 3)
  | .invokevirtual x => decide (tm_lk own x tm_ml = some (a, b)) && decide (tm_st a = false) && decide (a < tm_NM) && decide (tm_na a = b) && decide (len = 3)
  | .invokestatic x => decide (tm_lk own x tm_ml = some (a, b)) && (decide (a = 999) || decide (a = 997) || decide (a = 996) || (decide (tm_st a = true) && decide (a < tm_NM) && decide (tm_na a = b))) && decide (len = 3)
  | .goto off => decide ((pc : Int) + off = (a : Int)) && decide (len = 3)
  | .ifCond _ off => decide ((pc : Int) + off = (a : Int)) && decide (len = 3)
  | .if_icmp _ off => decide ((pc : Int) + off = (a : Int)) && decide (len = 3)
  | .lookupswitch _ ps => (ps.toList.zip (ps.toList.drop 1)).all (fun (a, next) => a.1 < next.1)
  | .tableswitch _ _ _ _ => true
  | .invokespecial _ => true
  | .new _ => true
  | .newarray _ => true
  | .anewarray _ => true
  | _ => decide (len = 1)
def tm_okE (J : Nat) (e : tm_E) : Bool := decide (decode (tm_cc J) e.1 = .ok (e.2.1, e.2.2.1)) && tm_ok (tm_mc J) e.1 e.2.1 e.2.2.1 e.2.2.2.1 e.2.2.2.2
def tm_okJ (J : Nat) : Bool := (tm_ks J).all (fun bl => bl.all (tm_okE J))
def tm_okR (i n : Nat) : Bool := (List.range n).all (fun k => tm_okJ (i + k))
theorem tm_ok0 : tm_okR 0 16 = true := by decide +kernel
theorem tm_ok1 : tm_okR 16 16 = true := by decide +kernel
theorem tm_ok2 : tm_okR 32 16 = true := by decide +kernel
theorem tm_ok3 : tm_okR 48 16 = true := by decide +kernel
theorem tm_ok4 : tm_okR 64 16 = true := by decide +kernel
theorem tm_ok5 : tm_okR 80 16 = true := by decide +kernel
theorem tm_ok6 : tm_okR 96 16 = true := by decide +kernel
theorem tm_ok7 : tm_okR 112 16 = true := by decide +kernel
theorem tm_ok8 : tm_okR 128 16 = true := by decide +kernel
theorem tm_ok9 : tm_okR 144 16 = true := by decide +kernel
theorem tm_ok10 : tm_okR 160 16 = true := by decide +kernel
theorem tm_ok11 : tm_okR 176 15 = true := by decide +kernel
def tm_okB (i n : Nat) : Bool := (((tm_ks 191).drop i).take n).all (fun bl => bl.all (tm_okE 191))
theorem tm_okL0 : tm_okB 0 2 = true := by decide +kernel
theorem tm_okL1 : tm_okB 2 2 = true := by decide +kernel
theorem tm_okL2 : tm_okB 4 2 = true := by decide +kernel
theorem tm_okL3 : tm_okB 6 2 = true := by decide +kernel
theorem tm_okL4 : tm_okB 8 2 = true := by decide +kernel
theorem tm_okL5 : tm_okB 10 2 = true := by decide +kernel
theorem tm_okL6 : tm_okB 12 2 = true := by decide +kernel
theorem tm_okL7 : tm_okB 14 2 = true := by decide +kernel
theorem tm_okL8 : tm_okB 16 2 = true := by decide +kernel
theorem tm_okL9 : tm_okB 18 2 = true := by decide +kernel
theorem tm_okL10 : tm_okB 20 2 = true := by decide +kernel
theorem tm_okL11 : tm_okB 22 2 = true := by decide +kernel
theorem tm_okL12 : tm_okB 24 2 = true := by decide +kernel
theorem tm_okL13 : tm_okB 26 2 = true := by decide +kernel
theorem tm_okL14 : tm_okB 28 2 = true := by decide +kernel
theorem tm_okL15 : tm_okB 30 2 = true := by decide +kernel
theorem tm_okL16 : tm_okB 32 2 = true := by decide +kernel
theorem tm_okL17 : tm_okB 34 2 = true := by decide +kernel
theorem tm_okL18 : tm_okB 36 2 = true := by decide +kernel
theorem tm_flok : tm_fl.all (fun e => decide (tables_1[e.2.2.2.2]? = some (.fieldLink (tm_cn e.1) e.2.1 (tm_T e.2.2.1 e.2.2.2.1).1 (tm_T e.2.2.1 e.2.2.2.1).2.1 (tm_T e.2.2.1 e.2.2.2.1).2.2.1))) = true := by decide +kernel
theorem tm_klok : tm_kl.all (fun e => decide (tables_1[e.2.2.2.2]? = some (.constant (tm_cn e.1) e.2.1 (tm_k e.2.2.1 e.2.2.2.1)))) = true := by decide +kernel
def tm_mn (J : Nat) : MethodName := if J = 999 then arraycopyName else if J = 997 then Lib.Math.max.name else if J = 996 then Lib.Math.min.name else tm_y J
theorem tm_mlok : tm_ml.all (fun e => decide (tables_1[e.2.2.2.2]? = some (.methodLink (tm_cn e.1) e.2.1 (tm_mn e.2.2.1)))) = true := by decide +kernel
end
section
/-! what the tables say of each method: its code, its kind, its class -/
def tm_mok (J : Nat) : Bool := decide (lw_tbl[(tm_pl J).1]? = some (.code (tm_y J) (tm_cc J) (tm_mL J) (tm_rt J))) && (if tm_st J = true then decide (lw_tbl[(tm_pl J).2.1]? = some (.static (tm_y J))) else decide (lw_tbl[(tm_pl J).2.1]? = some (.instanceMethod (tm_y J))) && decide (lw_tbl[(tm_pl J).2.2.1]? = some (.selects (tm_y J).cls (tm_y J) (tm_y J)))) && decide (lw_tbl[(tm_pl J).2.2.2]? = some (.initialized (tm_y J).cls)) && decide ((tm_y J).cls ≠ "java/lang/invoke/MethodHandle" ∧ (tm_y J).cls ≠ "java/lang/invoke/VarHandle") && decide ((parseMethodDescriptor (tm_y J).desc).map (fun d => d.parameters.length) = some (tm_na J)) && plainName (tm_y J).cls && decide (tm_mL J ≤ 20) && decide ((if tm_st J = true then tm_na J else tm_na J + 1) ≤ tm_mL J)
def tm_mokR (i n : Nat) : Bool := (List.range n).all (fun k => tm_mok (i + k))
theorem tm_mok0 : tm_mokR 0 16 = true := by decide +kernel
theorem tm_mok1 : tm_mokR 16 16 = true := by decide +kernel
theorem tm_mok2 : tm_mokR 32 16 = true := by decide +kernel
theorem tm_mok3 : tm_mokR 48 16 = true := by decide +kernel
theorem tm_mok4 : tm_mokR 64 16 = true := by decide +kernel
theorem tm_mok5 : tm_mokR 80 16 = true := by decide +kernel
theorem tm_mok6 : tm_mokR 96 16 = true := by decide +kernel
theorem tm_mok7 : tm_mokR 112 16 = true := by decide +kernel
theorem tm_mok8 : tm_mokR 128 16 = true := by decide +kernel
theorem tm_mok9 : tm_mokR 144 16 = true := by decide +kernel
theorem tm_mok10 : tm_mokR 160 16 = true := by decide +kernel
theorem tm_mok11 : tm_mokR 176 15 = true := by decide +kernel
theorem tm_w_max_c : Cond.code Lib.Math.max.name Lib.Math.max.code 2 (some .int) ∈ lw_tbl := List.mem_of_getElem? (i := 543) (by decide +kernel)
theorem tm_w_max_s : Cond.static Lib.Math.max.name ∈ lw_tbl := List.mem_of_getElem? (i := 542) (by decide +kernel)
theorem tm_w_min_c : Cond.code Lib.Math.min.name Lib.Math.min.code 2 (some .int) ∈ lw_tbl := List.mem_of_getElem? (i := 498) (by decide +kernel)
theorem tm_w_min_s : Cond.static Lib.Math.min.name ∈ lw_tbl := List.mem_of_getElem? (i := 497) (by decide +kernel)
theorem tm_w_math_i : Cond.initialized "java/lang/Math" ∈ lw_tbl := List.mem_of_getElem? (i := 85) (by decide +kernel)
theorem tm_w_sys_i : Cond.initialized "java/lang/System" ∈ lw_tbl := List.mem_of_getElem? (i := 84) (by decide +kernel)
theorem tm_w_cpy_n : Cond.native arraycopyName ∈ lw_tbl := List.mem_of_getElem? (i := 396) (by decide +kernel)
theorem tm_w_cpy_s : Cond.static arraycopyName ∈ lw_tbl := List.mem_of_getElem? (i := 395) (by decide +kernel)
end
section
/-! A SMALL MACHINE: the same methods over typed cells; its runs are the machine's (part 06). Cells: a city (0 town, 1 draft, 2 3 images, 4 trial, 5 other) and its parts, a row and its part, the rest by number -/
abbrev TA : Type := (Fin 6 × Nat) ⊕ ((Fin 8 × Nat) ⊕ Nat)
abbrev AV : Type := Int32 ⊕ TA
abbrev Wd : Type := TA → Nat → Int32
abbrev Lc : Type := List (Option AV)
abbrev Cfg : Type := Nat × Lc × List AV × Wd
abbrev Rs : Type := Option AV × Wd
abbrev CF : Type := Nat → List AV → Wd → Option Rs
abbrev Scr : Type := Option (Nat × (Nat → Int32))
abbrev cit (k : Fin 6) (p : Nat) : TA := .inl (k, p)
abbrev rw_ (k : Fin 8) (p : Nat) : TA := .inr (.inl (k, p))
abbrev sg (j : Nat) : TA := .inr (.inr j)
abbrev vI (x : Int32) : AV := .inl x
abbrev vR (t : TA) : AV := .inr t
/-- the class of an object's cell -/
def tm_obj (t : TA) : Nat := match t with
  | .inl (_, p) => match p with | 0 => 1 | _ => 99
  | .inr (.inl (_, p)) => match p with | 0 => 2 | _ => 99
  | .inr (.inr j) => match j with | 0 => 6 | 2 => 4 | 5 => 0 | 10 => 3 | 11 => 5 | 13 => 7 | _ => 99
/-- the fields that hold cells -/
def tm_ref (t : TA) (k : Nat) : Option TA := match t with
  | .inl (c, _) => match k with | 5 => some (cit c 1) | 6 => some (cit c 2) | 7 => some (cit c 3) | 8 => some (cit c 4) | 9 => some (cit c 5) | 10 => some (cit c 6) | 11 => some (cit c 7) | 15 => some (cit c 8) | _ => none
  | .inr (.inl (r, _)) => match k with | 0 => some (rw_ r 1) | _ => none
  | .inr (.inr j) => match j with
    | 0 => match k with | 0 => some (sg 1) | 1 => some (sg 2) | 2 => some (cit 0 0) | 3 => some (cit 1 0) | 4 => some (sg 4) | 5 => some (sg 5) | 6 => some (sg 10) | 7 => some (sg 11) | _ => none
    | 2 => match k with | 0 => some (sg 3) | _ => none
    | 5 => match k with | 2 => some (sg 6) | 3 => some (sg 7) | 4 => some (sg 8) | 5 => some (sg 9) | _ => none
    | 10 => match k with | 6 => some (cit 4 0) | 7 => some (cit 5 0) | _ => none
    | 11 => match k with | 0 => some (sg 12) | _ => none
    | 13 => match k with | 0 => some (sg 14) | 1 => some (sg 15) | 2 => some (sg 16) | 4 => some (sg 17) | 6 => some (sg 18) | 7 => some (sg 19) | 9 => some (sg 20) | 20 => some (sg 21) | 23 => some (sg 22) | _ => none
    | _ => none
/-- rows of numbers: 0 int, 1 boolean, 2 byte; how many -/
def tm_arr (t : TA) : Option (Nat × Nat) := match t with
  | .inl (_, p) => match p with | 1 => some (0, 8) | 2 => some (0, 8) | 3 => some (0, 5) | 4 => some (0, 5) | 5 => some (0, 5) | 6 => some (0, 5) | 7 => some (0, 5) | 8 => some (0, 40) | _ => none
  | .inr (.inl (_, p)) => match p with | 1 => some (0, 40) | _ => none
  | .inr (.inr j) => match j with | 3 => some (0, 160) | 6 => some (0, 24) | 7 => some (0, 24) | 8 => some (0, 24) | 9 => some (0, 120) | 12 => some (0, 16) | 14 => some (0, 8) | 15 => some (0, 8) | 16 => some (0, 320) | 17 => some (0, 196) | 18 => some (1, 2) | 19 => some (0, 120) | 20 => some (2, 160) | 21 => some (0, 5) | 22 => some (0, 16) | _ => none
def tm_in (i : Int32) (n : Nat) : Bool := !decide (i < 0) && decide (i.toNatClampNeg < n)
def wset (w : Wd) (t : TA) (k : Nat) (x : Int32) : Wd := fun t' k' => if t' = t then (if k' = k then x else w t k') else w t' k'
def tm_go (n : Nat) (lc : Lc) (st : List AV) (w : Wd) : Option (Rs ⊕ Cfg) := some (.inr (n, lc, st, w))
def tm_ild (i n : Nat) (lc : Lc) (st : List AV) (w : Wd) : Option (Rs ⊕ Cfg) := match lc[i]? with
  | some (some (.inl x)) => tm_go n lc (.inl x :: st) w
  | _ => none
def tm_ald (i n : Nat) (lc : Lc) (st : List AV) (w : Wd) : Option (Rs ⊕ Cfg) := match lc[i]? with
  | some (some (.inr t)) => tm_go n lc (.inr t :: st) w
  | _ => none
def tm_ist (i n : Nat) (lc : Lc) (st : List AV) (w : Wd) : Option (Rs ⊕ Cfg) := match st with
  | .inl x :: r => match Nat.blt i lc.length with | true => tm_go n (lc.set i (some (.inl x))) r w | false => none
  | _ => none
def tm_ast (i n : Nat) (lc : Lc) (st : List AV) (w : Wd) : Option (Rs ⊕ Cfg) := match st with
  | .inr t :: r => match Nat.blt i lc.length with | true => tm_go n (lc.set i (some (.inr t))) r w | false => none
  | _ => none
def tm_inc (i a b : Nat) (n : Nat) (lc : Lc) (st : List AV) (w : Wd) : Option (Rs ⊕ Cfg) := match lc[i]? with
  | some (some (.inl x)) => match b with
    | 0 => tm_go n (lc.set i (some (.inl (x + nI a)))) st w
    | _ => tm_go n (lc.set i (some (.inl (x + -(nI a))))) st w
  | _ => none
def tm_con (a b n : Nat) (lc : Lc) (st : List AV) (w : Wd) : Option (Rs ⊕ Cfg) := match b with
  | 0 => tm_go n lc (.inl (nI a) :: st) w
  | _ => tm_go n lc (.inl (-(nI a)) :: st) w
def tm_bin (f : Int32 → Int32 → Int32) (n : Nat) (lc : Lc) (st : List AV) (w : Wd) : Option (Rs ⊕ Cfg) := match st with
  | .inl y :: .inl x :: r => tm_go n lc (.inl (f x y) :: r) w
  | _ => none
def tm_div (f : Int32 → Int32 → Int32) (n : Nat) (lc : Lc) (st : List AV) (w : Wd) : Option (Rs ⊕ Cfg) := match st with
  | .inl y :: .inl x :: r => if y = 0 then none else tm_go n lc (.inl (f x y) :: r) w
  | _ => none
def tm_un (f : Int32 → Int32) (n : Nat) (lc : Lc) (st : List AV) (w : Wd) : Option (Rs ⊕ Cfg) := match st with
  | .inl x :: r => tm_go n lc (.inl (f x) :: r) w
  | _ => none
def tm_c2 (q : ClassFile.Cond) (x y : Int32) : Bool := match q with
  | .eq => decide (x = y)
  | .ne => !decide (x = y)
  | .lt => decide (x < y)
  | .ge => decide (y ≤ x)
  | .gt => decide (y < x)
  | .le => decide (x ≤ y)
def tm_br1 (q : ClassFile.Cond) (t n : Nat) (lc : Lc) (st : List AV) (w : Wd) : Option (Rs ⊕ Cfg) := match st with
  | .inl x :: r => tm_go (bif tm_c2 q x 0 then t else n) lc r w
  | _ => none
def tm_br2 (q : ClassFile.Cond) (t n : Nat) (lc : Lc) (st : List AV) (w : Wd) : Option (Rs ⊕ Cfg) := match st with
  | .inl y :: .inl x :: r => tm_go (bif tm_c2 q x y then t else n) lc r w
  | _ => none
def tm_jmp (pc : Nat) (off : Int) : Option Nat := match (pc : Int) + off with
  | .ofNat t => some t
  | .negSucc _ => none
def tm_jgo (t : Option Nat) (lc : Lc) (st : List AV) (w : Wd) : Option (Rs ⊕ Cfg) := match t with
  | some t => tm_go t lc st w
  | none => none
def tm_tsw (pc : Nat) (d lo hi : Int) (offs : Array Int) (lc : Lc) (st : List AV) (w : Wd) : Option (Rs ⊕ Cfg) := match st with
  | .inl x :: r => if x.toInt < lo ∨ hi < x.toInt then tm_jgo (tm_jmp pc d) lc r w else match offs[(x.toInt - lo).toNat]? with
    | some off => tm_jgo (tm_jmp pc off) lc r w
    | none => none
  | _ => none
def tm_lsw (pc : Nat) (d : Int) (ps : Array (Int × Int)) (lc : Lc) (st : List AV) (w : Wd) : Option (Rs ⊕ Cfg) := match st with
  | .inl x :: r => tm_jgo (tm_jmp pc (Op.lookupswitch.offset ps.toList d x.toInt)) lc r w
  | _ => none
def tm_gf (ci k n : Nat) (lc : Lc) (st : List AV) (w : Wd) : Option (Rs ⊕ Cfg) := match st with
  | .inr t :: r => match Nat.beq (tm_obj t) ci with
    | true => match tm_ref t k with
      | some u => tm_go n lc (.inr u :: r) w
      | none => tm_go n lc (.inl (w t k) :: r) w
    | false => none
  | _ => none
/-- a field that is a boolean takes 0 and 1 alone -/
def tm_fit (ci k : Nat) (x : Int32) : Bool := match Nat.beq ci 2, Nat.beq k 1 with
  | true, true => decide (x = 0) || decide (x = 1)
  | _, _ => true
def tm_pf (ci k n : Nat) (lc : Lc) (st : List AV) (w : Wd) : Option (Rs ⊕ Cfg) := match st with
  | .inl x :: .inr t :: r => match Nat.beq (tm_obj t) ci with
    | true => match tm_ref t k with
      | some _ => none
      | none => match tm_fit ci k x with
        | true => tm_go n lc r (wset w t k x)
        | false => none
    | false => none
  | _ => none
def tm_isS (t : TA) : Bool := match t with
  | .inr (.inr 99) => true
  | _ => false
def tm_al (y : Nat) (scr : Scr) (n : Nat) (lc : Lc) (st : List AV) (w : Wd) : Option (Rs ⊕ Cfg) := match st with
  | .inl i :: .inr t :: r => match tm_arr t with
    | some (y', m) => match Nat.beq y' y, tm_in i m with
      | true, true => tm_go n lc (.inl (w t i.toNatClampNeg) :: r) w
      | _, _ => none
    | none => match tm_isS t, Nat.beq y 0, scr with
      | true, true, some (L, xs) => match tm_in i L with
        | true => tm_go n lc (.inl (xs i.toNatClampNeg) :: r) w
        | false => none
      | _, _, _ => none
  | _ => none
/-- bytes and booleans: baload, bastore -/
def tm_bal (n : Nat) (lc : Lc) (st : List AV) (w : Wd) : Option (Rs ⊕ Cfg) := match st with
  | .inl i :: .inr t :: r => match tm_arr t with
    | some (y', m) => match Nat.beq y' 0, tm_in i m with
      | false, true => tm_go n lc (.inl (w t i.toNatClampNeg) :: r) w
      | _, _ => none
    | none => none
  | _ => none
def tm_as (n : Nat) (lc : Lc) (st : List AV) (w : Wd) : Option (Rs ⊕ Cfg) := match st with
  | .inl x :: .inl i :: .inr t :: r => match tm_arr t with
    | some (y', m) => match Nat.beq y' 0, tm_in i m with
      | true, true => tm_go n lc r (wset w t i.toNatClampNeg x)
      | _, _ => none
    | none => none
  | _ => none
def tm_bas (n : Nat) (lc : Lc) (st : List AV) (w : Wd) : Option (Rs ⊕ Cfg) := match st with
  | .inl x :: .inl i :: .inr t :: r => match tm_arr t with
    | some (y', m) => match Nat.beq y' 0, tm_in i m with
      | false, true => tm_go n lc r (wset w t i.toNatClampNeg (vp_nar (match y' with | 1 => .boolean | _ => .byte) x))
      | _, _ => none
    | none => none
  | _ => none
def tm_aal (n : Nat) (lc : Lc) (st : List AV) (w : Wd) : Option (Rs ⊕ Cfg) := match st with
  | .inl i :: .inr (.inr (.inr 1)) :: r => match tm_in i 8 with
    | true => tm_go n lc (.inr (rw_ (Fin.ofNat 8 i.toNatClampNeg) 0) :: r) w
    | false => none
  | .inl i :: .inr (.inr (.inr 4)) :: r => match tm_in i 2 with
    | true => tm_go n lc (.inr (cit (Fin.ofNat 6 (2 + i.toNatClampNeg)) 0) :: r) w
    | false => none
  | _ => none
def tm_len (scr : Scr) (n : Nat) (lc : Lc) (st : List AV) (w : Wd) : Option (Rs ⊕ Cfg) := match st with
  | .inr t :: r => match tm_arr t with
    | some (_, m) => tm_go n lc (.inl (nI m) :: r) w
    | none => match tm_isS t, scr with
      | true, some (L, _) => tm_go n lc (.inl (nI L) :: r) w
      | _, _ => none
  | _ => none
def tm_ret (o : Option Rs) (n : Nat) (lc : Lc) (r : List AV) : Option (Rs ⊕ Cfg) := match o with
  | some (some v, w) => tm_go n lc (v :: r) w
  | some (none, w) => tm_go n lc r w
  | none => none
/-- the k upper ones, turned round; the rest -/
def tm_pop : Nat → List AV → List AV → Option (List AV × List AV)
  | 0, acc, r => some (acc, r)
  | _ + 1, _, [] => none
  | k + 1, acc, v :: r => tm_pop k (v :: acc) r
def tm_cv (C : CF) (J' b n : Nat) (lc : Lc) (st : List AV) (w : Wd) : Option (Rs ⊕ Cfg) := match tm_pop (b + 1) [] st with
  | some (.inr t :: as, r) => match Nat.beq (tm_obj t) (tm_mc J'), Nat.ble r.length 8 with
    | true, true => tm_ret (C J' (.inr t :: as) w) n lc r
    | _, _ => none
  | _ => none
def tm_cs (C : CF) (J' b n : Nat) (lc : Lc) (st : List AV) (w : Wd) : Option (Rs ⊕ Cfg) := match tm_pop b [] st with
  | some (as, r) => match Nat.ble r.length 8 with
    | true => tm_ret (C J' as w) n lc r
    | false => none
  | none => none
def tm_rv (J : Nat) (st : List AV) (w : Wd) : Option (Rs ⊕ Cfg) := match st with
  | [.inl x] => match tm_rk J with
    | 1 => some (.inl (some (.inl x), w))
    | 2 => match decide (x = 0) || decide (x = 1) with
      | true => some (.inl (some (.inl x), w))
      | false => none
    | _ => none
  | _ => none
def tm_ra (J : Nat) (st : List AV) (w : Wd) : Option (Rs ⊕ Cfg) := match st with
  | [.inr t] => match tm_rk J with
    | 3 => some (.inl (some (.inr t), w))
    | _ => none
  | _ => none
def tm_rn (J : Nat) (st : List AV) (w : Wd) : Option (Rs ⊕ Cfg) := match st with
  | [] => match tm_rk J with
    | 0 => some (.inl (none, w))
    | _ => none
  | _ => none
def tm_dup (n : Nat) (lc : Lc) (st : List AV) (w : Wd) : Option (Rs ⊕ Cfg) := match st with
  | v :: r => tm_go n lc (v :: v :: r) w
  | _ => none
def tm_dup2 (n : Nat) (lc : Lc) (st : List AV) (w : Wd) : Option (Rs ⊕ Cfg) := match st with
  | v :: u :: r => tm_go n lc (v :: u :: v :: u :: r) w
  | _ => none
def tm_sem (C : CF) (scr : Scr) (J pc : Nat) (ins : Instr) (len a b : Nat) (lc : Lc) (st : List AV) (w : Wd) : Option (Rs ⊕ Cfg) := match ins with
  | .iconst _ => tm_con a b (pc + len) lc st w
  | .bipush _ => tm_con a b (pc + len) lc st w
  | .sipush _ => tm_con a b (pc + len) lc st w
  | .ldc _ => tm_con a b (pc + len) lc st w
  | .ldc_w _ => tm_con a b (pc + len) lc st w
  | .iload i => tm_ild i (pc + len) lc st w
  | .iload_n i => tm_ild i.val (pc + len) lc st w
  | .aload i => tm_ald i (pc + len) lc st w
  | .aload_n i => tm_ald i.val (pc + len) lc st w
  | .istore i => tm_ist i (pc + len) lc st w
  | .istore_n i => tm_ist i.val (pc + len) lc st w
  | .astore i => tm_ast i (pc + len) lc st w
  | .astore_n i => tm_ast i.val (pc + len) lc st w
  | .iinc i _ => tm_inc i a b (pc + len) lc st w
  | .iadd => tm_bin (fun x y => x + y) (pc + len) lc st w
  | .isub => tm_bin (fun x y => x - y) (pc + len) lc st w
  | .imul => tm_bin (fun x y => x * y) (pc + len) lc st w
  | .iand => tm_bin (fun x y => x &&& y) (pc + len) lc st w
  | .ior => tm_bin (fun x y => x ||| y) (pc + len) lc st w
  | .ixor => tm_bin (fun x y => x ^^^ y) (pc + len) lc st w
  | .ishl => tm_bin (fun x y => x <<< (y &&& 31)) (pc + len) lc st w
  | .ishr => tm_bin (fun x y => x >>> (y &&& 31)) (pc + len) lc st w
  | .iushr => tm_bin (fun x y => (x.toUInt32 >>> (y.toUInt32 &&& Int32.toUInt32 31)).toInt32) (pc + len) lc st w
  | .idiv => tm_div (fun x y => x / y) (pc + len) lc st w
  | .irem => tm_div (fun x y => x - x / y * y) (pc + len) lc st w
  | .ineg => tm_un (fun x => -x) (pc + len) lc st w
  | .i2b => tm_un (fun x => x.toInt8.toInt32) (pc + len) lc st w
  | .i2s => tm_un (fun x => x.toInt16.toInt32) (pc + len) lc st w
  | .dup => tm_dup (pc + len) lc st w
  | .dup2 => tm_dup2 (pc + len) lc st w
  | .goto _ => tm_go a lc st w
  | .ifCond q _ => tm_br1 q a (pc + len) lc st w
  | .if_icmp q _ => tm_br2 q a (pc + len) lc st w
  | .tableswitch d lo hi offs => tm_tsw pc d lo hi offs lc st w
  | .lookupswitch d ps => tm_lsw pc d ps lc st w
  | .getfield _ => tm_gf a b (pc + len) lc st w
  | .putfield _ => tm_pf a b (pc + len) lc st w
  | .iaload => tm_al 0 scr (pc + len) lc st w
  | .baload => tm_bal (pc + len) lc st w
  | .iastore => tm_as (pc + len) lc st w
  | .bastore => tm_bas (pc + len) lc st w
  | .aaload => tm_aal (pc + len) lc st w
  | .arraylength => tm_len scr (pc + len) lc st w
  | .invokevirtual _ => tm_cv C a b (pc + len) lc st w
  | .invokestatic _ => tm_cs C a b (pc + len) lc st w
  | .ireturn => tm_rv J st w
  | .areturn => tm_ra J st w
  | .return_ => tm_rn J st w
  | _ => none
def tm_step (C : CF) (scr : Scr) (J : Nat) (c : Cfg) : Option (Rs ⊕ Cfg) := match tm_at J c.1 with
  | some (ins, len, a, b) => tm_sem C scr J c.1 ins len a b c.2.1 c.2.2.1 c.2.2.2
  | none => none
def tm_ex (C : CF) (scr : Scr) (J : Nat) : Nat → Cfg → Option Rs
  | 0, _ => none
  | n + 1, c => match tm_step C scr J c with
    | some (.inl r) => some r
    | some (.inr c') => tm_ex C scr J n c'
    | none => none
/-- System.arraycopy, Math.max, Math.min -/
def tm_jdk (J : Nat) (as : List AV) (w : Wd) : Option Rs := match J, as with
  | 999, [.inr s, .inl sp, .inr d, .inl dp, .inl n] => match tm_arr s, tm_arr d with
    | some (0, n0), some (0, n1) => if ¬ sp < 0 ∧ ¬ dp < 0 ∧ ¬ n < 0 ∧ sp.toNatClampNeg + n.toNatClampNeg ≤ n0 ∧ dp.toNatClampNeg + n.toNatClampNeg ≤ n1 then some (none, fun t k => if t = d then va_cpy (w s) (w d) sp.toNatClampNeg dp.toNatClampNeg n.toNatClampNeg k else w t k) else none
    | _, _ => none
  | 997, [.inl x, .inl y] => some (some (.inl (if x < y then y else x)), w)
  | 996, [.inl x, .inl y] => some (some (.inl (if y < x then y else x)), w)
  | _, _ => none
def tm_ent (J : Nat) (as : List AV) : Lc := as.map some ++ List.replicate (tm_mL J - as.length) none
def tm_cal : Nat → Nat → CF
  | 0, _ => fun _ _ _ => none
  | d + 1, f => fun J as w => match Nat.ble 900 J with
    | true => tm_jdk J as w
    | false => match Nat.ble as.length (tm_mL J), Nat.beq as.length (tm_na J + (bif tm_st J then 0 else 1)) with
      | true, true => tm_ex (tm_cal d f) none J f (0, tm_ent J as, [], w)
      | _, _ => none
end
section
/-! cells: what the tables say of classes and fields; a world of typed cells as a world of the kit -/
def tm_ly (c : Nat) : List Nat := [[237, 239, 241, 243, 245, 247], [188, 190, 192, 194, 196, 198, 200, 202, 204, 206, 208, 210, 212, 214, 216, 218, 220], [317, 319, 321, 323], [272, 274, 276, 278, 280, 282, 284, 286], [112, 114, 116, 118, 120, 122], [299, 301], [335, 337, 339, 341, 343, 345, 347, 349, 351], [835, 837, 839, 841, 843, 845, 847, 849, 851, 853, 855, 857, 859, 861, 863, 865, 867, 869, 871, 873, 875, 877, 879, 881, 883]].getD c []
def tm_tbl : List Jvm.Cond := lw_tbl.filter goodWord
theorem tm_in_tbl {w : Jvm.Cond} (h : w ∈ lw_tbl) (g : goodWord w = true) : w ∈ tm_tbl := List.mem_filter.mpr ⟨h, g⟩
theorem tm_good {Ts : List Jvm.Cond} (hTs : ∀ w ∈ tm_tbl, w ∈ Ts) : ∀ w ∈ tm_tbl, w ∈ Ts ∧ ((w.onTables && w.keeps) = true ∨ ∃ ty, w = .arrayClass ty) := fun w h => ⟨hTs w h, good_of_word (List.mem_filter.mp h).2⟩
theorem tm_tables_in {w : Jvm.Cond} {i : Nat} (h : tables_1[i]? = some w) (g : goodWord w = true) : w ∈ tm_tbl := tm_in_tbl (List.mem_append_right _ (List.mem_of_getElem? h)) g
-- classes
theorem tm_lys : (List.range 8).all (fun c => decide (u_ws (tm_cn c) (tm_T c) (tm_N c) = (tm_ly c).filterMap (fun i => lw_tbl[i]?)) && (u_ws (tm_cn c) (tm_T c) (tm_N c)).all goodWord) = true := by decide +kernel
theorem tm_lys_in {c : Nat} (hc : c < 8) : ∀ w ∈ u_ws (tm_cn c) (tm_T c) (tm_N c), w ∈ tm_tbl := by
  intro w hw
  have h := List.all_eq_true.mp tm_lys c (List.mem_range.mpr hc)
  simp only [Bool.and_eq_true, decide_eq_true_eq] at h
  have g := List.all_eq_true.mp h.2 w hw
  rw [h.1] at hw
  obtain ⟨i, -, hi⟩ := List.mem_filterMap.mp hw
  exact tm_in_tbl (List.mem_of_getElem? hi) g
theorem tm_cls {c : Nat} (hc : c < 8) : tm_cl[c]? = some (tm_cn c, tm_T c, tm_N c) := by
  rcases (by omega : c = 0 ∨ c = 1 ∨ c = 2 ∨ c = 3 ∨ c = 4 ∨ c = 5 ∨ c = 6 ∨ c = 7) with rfl | rfl | rfl | rfl | rfl | rfl | rfl | rfl <;> rfl
theorem tm_tys_ok : (List.range 8).all (fun c => (List.range (tm_N c)).all (fun k => decide (parseFieldDescriptor (tm_T c k).2.2.1 = some (tm_t c k)))) = true := by decide +kernel
theorem tm_nms_ok : (List.range 8).all (fun c => (List.range (tm_N c)).all (fun a => (List.range (tm_N c)).all (fun b => decide (a = b) || decide ((tm_T c a).2.1 ≠ (tm_T c b).2.1)))) = true := by decide +kernel
theorem tm_tys_of {c : Nat} (hc : c < 8) : ∀ k, k < tm_N c → parseFieldDescriptor (tm_T c k).2.2.1 = some (tm_t c k) := by
  intro k hk
  have h := List.all_eq_true.mp (List.all_eq_true.mp tm_tys_ok c (List.mem_range.mpr hc)) k (List.mem_range.mpr hk)
  simpa using h
theorem tm_nms_of {c : Nat} (hc : c < 8) : ∀ a, a < tm_N c → ∀ b, b < tm_N c → a ≠ b → (tm_T c a).2.1 ≠ (tm_T c b).2.1 := by
  intro a ha b hb hne
  have h := List.all_eq_true.mp (List.all_eq_true.mp (List.all_eq_true.mp tm_nms_ok c (List.mem_range.mpr hc)) a (List.mem_range.mpr ha)) b (List.mem_range.mpr hb)
  simp only [Bool.or_eq_true, decide_eq_true_eq] at h
  exact h.resolve_left hne
-- the cells
def tm_all : List TA := (List.finRange 6).flatMap (fun c => (List.range 9).map (fun p => cit c p)) ++ ((List.finRange 8).flatMap (fun r => [rw_ r 0, rw_ r 1]) ++ (List.range 23).map sg)
theorem tm_all_nd : tm_all.Nodup := by decide +kernel
theorem tm_all_inj {i j : Nat} {t : TA} (hi : tm_all[i]? = some t) (hj : tm_all[j]? = some t) : i = j := by
  obtain ⟨a1, a2⟩ := List.getElem?_eq_some_iff.mp hi
  obtain ⟨b1, b2⟩ := List.getElem?_eq_some_iff.mp hj
  have h := List.pairwise_iff_getElem.mp tm_all_nd
  rcases Nat.lt_trichotomy i j with z | z | z
  · exact absurd (a2.trans b2.symm) (h i j a1 b1 z)
  · exact z
  · exact absurd (b2.trans a2.symm) (h j i b1 a1 z)
theorem tm_all_cit (c : Fin 6) {p : Nat} (h : p < 9) : cit c p ∈ tm_all := List.mem_append_left _ (List.mem_flatMap.mpr ⟨c, List.mem_finRange c, List.mem_map.mpr ⟨p, List.mem_range.mpr h, rfl⟩⟩)
theorem tm_all_rw (r : Fin 8) {p : Nat} (h : p < 2) : rw_ r p ∈ tm_all := by
  refine List.mem_append_right _ (List.mem_append_left _ (List.mem_flatMap.mpr ⟨r, List.mem_finRange r, ?_⟩))
  rcases (by omega : p = 0 ∨ p = 1) with rfl | rfl
  · exact List.mem_cons_self
  · exact List.mem_cons_of_mem _ List.mem_cons_self
theorem tm_all_sg {j : Nat} (h : j < 23) : sg j ∈ tm_all := List.mem_append_right _ (List.mem_append_right _ (List.mem_map.mpr ⟨j, List.mem_range.mpr h, rfl⟩))
theorem tm_obj_in {t : TA} (h : tm_obj t < 8) : t ∈ tm_all := by
  rcases t with ⟨c, p⟩ | ⟨r, p⟩ | j
  · match p, h with
    | 0, _ => exact tm_all_cit c (by omega)
    | p + 1, h => simp [tm_obj] at h
  · match p, h with
    | 0, _ => exact tm_all_rw r (by omega)
    | p + 1, h => simp [tm_obj] at h
  · refine tm_all_sg ?_
    unfold tm_obj at h
    dsimp only at h
    split at h <;> omega
theorem tm_arr_in {t : TA} {q : Nat × Nat} (h : tm_arr t = some q) : t ∈ tm_all ∧ tm_obj t = 99 := by
  rcases t with ⟨c, p⟩ | ⟨r, p⟩ | j
  · unfold tm_arr at h
    dsimp only at h
    split at h
    all_goals first | (cases h; done) | exact ⟨tm_all_cit c (by omega), rfl⟩
  · unfold tm_arr at h
    dsimp only at h
    split at h
    all_goals first | (cases h; done) | exact ⟨tm_all_rw r (by omega), rfl⟩
  · unfold tm_arr at h
    dsimp only at h
    split at h
    all_goals first | (cases h; done) | exact ⟨tm_all_sg (by omega), rfl⟩
theorem tm_flds_ok : tm_all.all (fun t => decide (8 ≤ tm_obj t) || (List.range (tm_N (tm_obj t))).all (fun k => (tm_ref t k).isSome || (decide ((tm_T (tm_obj t) k).2.2.2 = false) && decide (tm_t (tm_obj t) k = if tm_obj t = 2 ∧ k = 1 then .boolean else .int)))) = true := by decide +kernel
theorem tm_fld {t : TA} {k : Nat} (h : tm_obj t < 8) (hk : k < tm_N (tm_obj t)) (hr : tm_ref t k = none) : (tm_T (tm_obj t) k).2.2.2 = false ∧ tm_t (tm_obj t) k = if tm_obj t = 2 ∧ k = 1 then .boolean else .int := by
  have h1 := List.all_eq_true.mp tm_flds_ok t (tm_obj_in h)
  simp only [Bool.or_eq_true, decide_eq_true_eq] at h1
  have h2 := List.all_eq_true.mp (h1.resolve_left (by omega)) k (List.mem_range.mpr hk)
  simp only [hr, Option.isSome_none, Bool.false_or, Bool.and_eq_true, decide_eq_true_eq] at h2
  exact h2
-- the worlds
def tm_v (ad : TA → Nat) (v : AV) : Value := match v with
  | .inl x => .int x
  | .inr t => .ref (ad t)
def tm_tys (cT : Nat → ClassId) : List (ClassId × FieldType) := [(cT 0, .int), (cT 1, .boolean), (cT 2, .byte), (cT 3, .object "VotedMap$Row"), (cT 4, .object "VotedMap$City")]
def tm_ty (y : Nat) : FieldType := match y with
  | 0 => .int
  | 1 => .boolean
  | _ => .byte
def tm_fv (ad : TA → Nat) (w : Wd) (t : TA) (k : Nat) : Value := match tm_ref t k with
  | some u => .ref (ad u)
  | none => .int (w t k)
def tm_fs (ad : TA → Nat) (w : Wd) (t : TA) : List Value := (List.range (tm_N (tm_obj t))).map (tm_fv ad w t)
def tm_cell (ad : TA → Nat) (cT : Nat → ClassId) (w : Wd) (t : TA) : va_E := match Nat.blt (tm_obj t) 8 with
  | true => .inr (tm_obj t, tm_fs ad w t)
  | false => match tm_arr t with
    | some (y, n) => .inl (cT y, n, .inl (w t))
    | none => match t with
      | .inr (.inr 1) => .inl (cT 3, 8, .inr (.inr (.inr (.inr (fun j => some (ad (rw_ (Fin.ofNat 8 j) 0)))))))
      | _ => .inl (cT 4, 2, .inr (.inr (.inr (.inr (fun j => some (ad (cit (Fin.ofNat 6 (2 + j)) 0)))))))
def tm_WS (ad : TA → Nat) (cT : Nat → ClassId) (w : Wd) : va_W := tm_all.map (fun t => (ad t, tm_cell ad cT w t))
def tm_D (A : Nat → Prop) (ad : TA → Nat) : Prop := (∀ t ∈ tm_all, A (ad t)) ∧ ∀ t ∈ tm_all, ∀ u ∈ tm_all, ad t = ad u → t = u
theorem tm_blt {a b : Nat} : Nat.blt a b = true ↔ a < b := by
  unfold Nat.blt
  rw [Nat.ble_eq]
  exact Iff.rfl
theorem tm_blt_f {a b : Nat} (h : Nat.blt a b = false) : ¬ a < b := fun q => by rw [tm_blt.mpr q] at h; cases h
theorem tm_cell_o {ad : TA → Nat} {cT : Nat → ClassId} {w : Wd} {t : TA} (h : tm_obj t < 8) : tm_cell ad cT w t = .inr (tm_obj t, tm_fs ad w t) := by
  unfold tm_cell
  rw [tm_blt.mpr h]
theorem tm_cell_a {ad : TA → Nat} {cT : Nat → ClassId} {w : Wd} {t : TA} {y n : Nat} (h : tm_arr t = some (y, n)) : tm_cell ad cT w t = .inl (cT y, n, .inl (w t)) := by
  unfold tm_cell
  have h1 : Nat.blt (tm_obj t) 8 = false := by rw [(tm_arr_in h).2]; rfl
  rw [h1, h]
theorem tm_at_WS {ad : TA → Nat} {cT : Nat → ClassId} {t : TA} (h : t ∈ tm_all) : ∃ q0 : Nat, tm_all[q0]? = some t ∧ ∀ w : Wd, (tm_WS ad cT w)[q0]? = some (ad t, tm_cell ad cT w t) := by
  obtain ⟨q0, hq⟩ := List.getElem?_of_mem h
  refine ⟨q0, hq, fun w => ?_⟩
  unfold tm_WS
  rw [List.getElem?_map, hq]
  rfl
theorem tm_cell_ne {ad : TA → Nat} {cT : Nat → ClassId} {w w' : Wd} {u : TA} (h : w' u = w u) : tm_cell ad cT w' u = tm_cell ad cT w u := by
  unfold tm_cell tm_fs
  have e : tm_fv ad w' u = tm_fv ad w u := by
    funext k
    unfold tm_fv
    rw [h]
  rw [h, e]
theorem tm_set_WS {ad : TA → Nat} {cT : Nat → ClassId} {w w' : Wd} {t : TA} {q0 : Nat} {e : va_E} (hq : tm_all[q0]? = some t) (he : tm_cell ad cT w' t = e) (hw : ∀ u, u ≠ t → w' u = w u) : (tm_WS ad cT w).set q0 (ad t, e) = tm_WS ad cT w' := by
  apply List.ext_getElem?
  intro i
  have hlq : q0 < tm_all.length := (List.getElem?_eq_some_iff.mp hq).1
  by_cases hi : i = q0
  · subst hi
    rw [List.getElem?_set_self (by unfold tm_WS; rw [List.length_map]; exact hlq)]
    unfold tm_WS
    rw [List.getElem?_map, hq, ← he]
    rfl
  · rw [List.getElem?_set_ne (Ne.symm hi)]
    unfold tm_WS
    rw [List.getElem?_map, List.getElem?_map]
    cases hu : tm_all[i]? with
    | none => rfl
    | some u =>
      have hne : u ≠ t := by
        intro h
        subst h
        exact hi (tm_all_inj hu hq)
      show some (ad u, tm_cell ad cT w u) = some (ad u, tm_cell ad cT w' u)
      rw [tm_cell_ne (hw u hne)]
theorem tm_D.va {A : Nat → Prop} {ad : TA → Nat} (h : tm_D A ad) (cT : Nat → ClassId) (w : Wd) : va_D A (tm_WS ad cT w) := by
  have key : ∀ (k : Nat) (q : Nat × va_E), (tm_WS ad cT w)[k]? = some q → ∃ t, tm_all[k]? = some t ∧ q.1 = ad t := by
    intro k q hk
    unfold tm_WS at hk
    rw [List.getElem?_map] at hk
    cases ht : tm_all[k]? with
    | none => rw [ht] at hk; cases hk
    | some t => rw [ht] at hk; cases hk; exact ⟨t, rfl, rfl⟩
  refine ⟨fun i j x y hi hj hxy => ?_, fun k q hk => ?_⟩
  · obtain ⟨t, h1, h2⟩ := key i x hi
    obtain ⟨u, h3, h4⟩ := key j y hj
    have hne := h.2 t (List.mem_of_getElem? h1) u (List.mem_of_getElem? h3) (by rw [← h2, ← h4]; exact hxy)
    subst hne
    exact tm_all_inj h1 h3
  · obtain ⟨t, h1, h2⟩ := key k q hk
    rw [h2]
    exact h.1 t (List.mem_of_getElem? h1)
theorem tm_fs_at {ad : TA → Nat} {w : Wd} {t : TA} {k : Nat} (hk : k < tm_N (tm_obj t)) : (tm_fs ad w t)[k]? = some (tm_fv ad w t k) := by
  unfold tm_fs
  rw [List.getElem?_map, List.getElem?_range hk]
  rfl
theorem tm_fs_set {ad : TA → Nat} {w : Wd} {t : TA} {k : Nat} {x : Int32} (hr : tm_ref t k = none) : (tm_fs ad w t).set k (.int x) = tm_fs ad (wset w t k x) t := by
  apply List.ext_getElem?
  intro i
  by_cases hl : i < tm_N (tm_obj t)
  · by_cases hi : i = k
    · subst hi
      rw [List.getElem?_set_self (by unfold tm_fs; rw [List.length_map, List.length_range]; exact hl), tm_fs_at hl]
      unfold tm_fv wset
      rw [hr]
      simp
    · rw [List.getElem?_set_ne (Ne.symm hi), tm_fs_at hl, tm_fs_at hl]
      unfold tm_fv wset
      simp [hi]
  · have e1 : ∀ l : List Value, l.length = tm_N (tm_obj t) → l[i]? = none := fun l h => List.getElem?_eq_none (by omega)
    rw [e1 _ (by rw [List.length_set]; unfold tm_fs; simp), e1 _ (by unfold tm_fs; simp)]
theorem wset_ne {w : Wd} {t u : TA} {k : Nat} {x : Int32} (h : u ≠ t) : wset w t k x u = w u := by
  funext j
  unfold wset
  rw [if_neg h]
theorem wset_upd {w : Wd} {t : TA} {k : Nat} {x : Int32} : wset w t k x t = upd (w t) k x := by
  funext j
  unfold wset upd
  rw [if_pos rfl]
end
section
/-! what each helper of the small machine asks and does -/
theorem ti_ild {i n : Nat} {lc : Lc} {st : List AV} {w : Wd} {o : Rs ⊕ Cfg} (h : tm_ild i n lc st w = some o) : ∃ x, lc[i]? = some (some (.inl x)) ∧ o = .inr (n, lc, .inl x :: st, w) := by
  unfold tm_ild tm_go at h
  split at h
  next x hx => cases h; exact ⟨x, hx, rfl⟩
  next => cases h
theorem ti_ald {i n : Nat} {lc : Lc} {st : List AV} {w : Wd} {o : Rs ⊕ Cfg} (h : tm_ald i n lc st w = some o) : ∃ t, lc[i]? = some (some (.inr t)) ∧ o = .inr (n, lc, .inr t :: st, w) := by
  unfold tm_ald tm_go at h
  split at h
  next t ht => cases h; exact ⟨t, ht, rfl⟩
  next => cases h
theorem ti_ist {i n : Nat} {lc : Lc} {st : List AV} {w : Wd} {o : Rs ⊕ Cfg} (h : tm_ist i n lc st w = some o) : ∃ x r, st = .inl x :: r ∧ i < lc.length ∧ o = .inr (n, lc.set i (some (.inl x)), r, w) := by
  unfold tm_ist tm_go at h
  split at h
  next x r => split at h
              next hb => cases h; exact ⟨x, r, rfl, tm_blt.mp hb, rfl⟩
              next => cases h
  next => cases h
theorem ti_ast {i n : Nat} {lc : Lc} {st : List AV} {w : Wd} {o : Rs ⊕ Cfg} (h : tm_ast i n lc st w = some o) : ∃ t r, st = .inr t :: r ∧ i < lc.length ∧ o = .inr (n, lc.set i (some (.inr t)), r, w) := by
  unfold tm_ast tm_go at h
  split at h
  next x r => split at h
              next hb => cases h; exact ⟨x, r, rfl, tm_blt.mp hb, rfl⟩
              next => cases h
  next => cases h
theorem ti_inc {i n a b : Nat} {lc : Lc} {st : List AV} {w : Wd} {o : Rs ⊕ Cfg} (h : tm_inc i a b n lc st w = some o) : ∃ x, lc[i]? = some (some (.inl x)) ∧ o = .inr (n, lc.set i (some (.inl (x + tm_k a b))), st, w) := by
  unfold tm_inc tm_go at h
  split at h
  next x hx =>
    split at h
    next => cases h; exact ⟨x, hx, rfl⟩
    next b hb =>
      cases h
      refine ⟨x, hx, ?_⟩
      unfold tm_k
      split
      next => exact absurd rfl hb
      next => rfl
  next => cases h
theorem ti_con {n a b : Nat} {lc : Lc} {st : List AV} {w : Wd} {o : Rs ⊕ Cfg} (h : tm_con a b n lc st w = some o) : o = .inr (n, lc, .inl (tm_k a b) :: st, w) := by
  unfold tm_con tm_go at h
  split at h
  next => cases h; rfl
  next b hb =>
    cases h
    unfold tm_k
    split
    next => exact absurd rfl hb
    next => rfl
theorem ti_bin {f : Int32 → Int32 → Int32} {n : Nat} {lc : Lc} {st : List AV} {w : Wd} {o : Rs ⊕ Cfg} (h : tm_bin f n lc st w = some o) : ∃ x y r, st = .inl y :: .inl x :: r ∧ o = .inr (n, lc, .inl (f x y) :: r, w) := by
  unfold tm_bin tm_go at h
  split at h
  next y x r => cases h; exact ⟨x, y, r, rfl, rfl⟩
  next => cases h
theorem ti_div {f : Int32 → Int32 → Int32} {n : Nat} {lc : Lc} {st : List AV} {w : Wd} {o : Rs ⊕ Cfg} (h : tm_div f n lc st w = some o) : ∃ x y r, st = .inl y :: .inl x :: r ∧ ¬ y = 0 ∧ o = .inr (n, lc, .inl (f x y) :: r, w) := by
  unfold tm_div tm_go at h
  split at h
  next y x r => split at h
                next => cases h
                next hy => cases h; exact ⟨x, y, r, rfl, hy, rfl⟩
  next => cases h
theorem ti_un {f : Int32 → Int32} {n : Nat} {lc : Lc} {st : List AV} {w : Wd} {o : Rs ⊕ Cfg} (h : tm_un f n lc st w = some o) : ∃ x r, st = .inl x :: r ∧ o = .inr (n, lc, .inl (f x) :: r, w) := by
  unfold tm_un tm_go at h
  split at h
  next x r => cases h; exact ⟨x, r, rfl, rfl⟩
  next => cases h
theorem ti_br1 {q : ClassFile.Cond} {t n : Nat} {lc : Lc} {st : List AV} {w : Wd} {o : Rs ⊕ Cfg} (h : tm_br1 q t n lc st w = some o) : ∃ x r, st = .inl x :: r ∧ o = .inr (bif tm_c2 q x 0 then t else n, lc, r, w) := by
  unfold tm_br1 tm_go at h
  split at h
  next x r => cases h; exact ⟨x, r, rfl, rfl⟩
  next => cases h
theorem ti_br2 {q : ClassFile.Cond} {t n : Nat} {lc : Lc} {st : List AV} {w : Wd} {o : Rs ⊕ Cfg} (h : tm_br2 q t n lc st w = some o) : ∃ x y r, st = .inl y :: .inl x :: r ∧ o = .inr (bif tm_c2 q x y then t else n, lc, r, w) := by
  unfold tm_br2 tm_go at h
  split at h
  next y x r => cases h; exact ⟨x, y, r, rfl, rfl⟩
  next => cases h
theorem ti_jmp {pc t : Nat} {off : Int} (h : tm_jmp pc off = some t) : (pc : Int) + off = (t : Int) := by
  unfold tm_jmp at h
  split at h
  next u hu => cases h; exact hu
  next => cases h
theorem ti_jgo {t : Option Nat} {lc : Lc} {st : List AV} {w : Wd} {o : Rs ⊕ Cfg} (h : tm_jgo t lc st w = some o) : ∃ u, t = some u ∧ o = .inr (u, lc, st, w) := by
  unfold tm_jgo tm_go at h
  split at h
  next u => cases h; exact ⟨u, rfl, rfl⟩
  next => cases h
theorem ti_tsw {pc : Nat} {d lo hi : Int} {offs : Array Int} {lc : Lc} {st : List AV} {w : Wd} {o : Rs ⊕ Cfg} (h : tm_tsw pc d lo hi offs lc st w = some o) : ∃ x r u, st = .inl x :: r ∧ o = .inr (u, lc, r, w) ∧ (((x.toInt < lo ∨ hi < x.toInt) ∧ (pc : Int) + d = (u : Int)) ∨ (¬ x.toInt < lo ∧ ¬ hi < x.toInt ∧ ∃ off, offs[(x.toInt - lo).toNat]? = some off ∧ (pc : Int) + off = (u : Int))) := by
  unfold tm_tsw at h
  split at h
  next x r =>
    split at h
    next hb =>
      obtain ⟨u, h1, h2⟩ := ti_jgo h
      exact ⟨x, r, u, rfl, h2, Or.inl ⟨hb, ti_jmp h1⟩⟩
    next hb =>
      split at h
      next off ho =>
        obtain ⟨u, h1, h2⟩ := ti_jgo h
        exact ⟨x, r, u, rfl, h2, Or.inr ⟨fun q => hb (Or.inl q), fun q => hb (Or.inr q), off, ho, ti_jmp h1⟩⟩
      next => cases h
  next => cases h
theorem ti_lsw {pc : Nat} {d : Int} {ps : Array (Int × Int)} {lc : Lc} {st : List AV} {w : Wd} {o : Rs ⊕ Cfg} (h : tm_lsw pc d ps lc st w = some o) : ∃ x r u, st = .inl x :: r ∧ o = .inr (u, lc, r, w) ∧ (pc : Int) + Op.lookupswitch.offset ps.toList d x.toInt = (u : Int) := by
  unfold tm_lsw at h
  split at h
  next x r =>
    obtain ⟨u, h1, h2⟩ := ti_jgo h
    exact ⟨x, r, u, rfl, h2, ti_jmp h1⟩
  next => cases h
theorem ti_gf {ci k n : Nat} {lc : Lc} {st : List AV} {w : Wd} {o : Rs ⊕ Cfg} (h : tm_gf ci k n lc st w = some o) : ∃ t r, st = .inr t :: r ∧ tm_obj t = ci ∧ ((∃ u, tm_ref t k = some u ∧ o = .inr (n, lc, .inr u :: r, w)) ∨ (tm_ref t k = none ∧ o = .inr (n, lc, .inl (w t k) :: r, w))) := by
  unfold tm_gf tm_go at h
  split at h
  next t r =>
    split at h
    next hb =>
      refine ⟨t, r, rfl, Nat.eq_of_beq_eq_true hb, ?_⟩
      split at h
      next u hu => cases h; exact Or.inl ⟨u, hu, rfl⟩
      next hu => cases h; exact Or.inr ⟨hu, rfl⟩
    next => cases h
  next => cases h
theorem ti_fit {ci k : Nat} {x : Int32} (h : tm_fit ci k x = true) (h1 : ci = 2 ∧ k = 1) : x = 0 ∨ x = 1 := by
  obtain ⟨rfl, rfl⟩ := h1
  have h2 : (decide (x = 0) || decide (x = 1)) = true := h
  simpa using h2
theorem ti_pf {ci k n : Nat} {lc : Lc} {st : List AV} {w : Wd} {o : Rs ⊕ Cfg} (h : tm_pf ci k n lc st w = some o) : ∃ x t r, st = .inl x :: .inr t :: r ∧ tm_obj t = ci ∧ tm_ref t k = none ∧ tm_fit ci k x = true ∧ o = .inr (n, lc, r, wset w t k x) := by
  unfold tm_pf tm_go at h
  split at h
  next x t r =>
    split at h
    next hb =>
      split at h
      next => cases h
      next hu =>
        split at h
        next hf => cases h; exact ⟨x, t, r, rfl, Nat.eq_of_beq_eq_true hb, hu, hf, rfl⟩
        next => cases h
    next => cases h
  next => cases h
theorem ti_in {i : Int32} {n : Nat} (h : tm_in i n = true) : vp_in i n := by
  unfold tm_in at h
  simp only [Bool.and_eq_true, Bool.not_eq_true', decide_eq_false_iff_not, decide_eq_true_eq] at h
  exact fun q => q.elim h.1 (fun z => absurd h.2 (Nat.not_lt.mpr z))
theorem ti_isS {t : TA} (h : tm_isS t = true) : t = sg 99 := by
  unfold tm_isS at h
  split at h
  · rfl
  · cases h
theorem ti_al {y n : Nat} {scr : Scr} {lc : Lc} {st : List AV} {w : Wd} {o : Rs ⊕ Cfg} (h : tm_al y scr n lc st w = some o) : ∃ i t r, st = .inl i :: .inr t :: r ∧ ((∃ m, tm_arr t = some (y, m) ∧ vp_in i m ∧ o = .inr (n, lc, .inl (w t i.toNatClampNeg) :: r, w)) ∨ (t = sg 99 ∧ ∃ L xs, scr = some (L, xs) ∧ vp_in i L ∧ o = .inr (n, lc, .inl (xs i.toNatClampNeg) :: r, w))) := by
  unfold tm_al tm_go at h
  split at h
  next i t r =>
    refine ⟨i, t, r, rfl, ?_⟩
    split at h
    next y' m ha =>
      split at h
      next hb hi =>
        cases h
        have e := Nat.eq_of_beq_eq_true hb
        subst e
        exact Or.inl ⟨m, ha, ti_in hi, rfl⟩
      next => cases h
    next =>
      split at h
      next hs hb =>
        split at h
        next hi => cases h; exact Or.inr ⟨ti_isS (by assumption), _, _, rfl, ti_in hi, rfl⟩
        next => cases h
      next => cases h
  next => cases h
theorem ti_bal {n : Nat} {lc : Lc} {st : List AV} {w : Wd} {o : Rs ⊕ Cfg} (h : tm_bal n lc st w = some o) : ∃ i t r y m, st = .inl i :: .inr t :: r ∧ tm_arr t = some (y, m) ∧ y ≠ 0 ∧ vp_in i m ∧ o = .inr (n, lc, .inl (w t i.toNatClampNeg) :: r, w) := by
  unfold tm_bal tm_go at h
  split at h
  next i t r =>
    split at h
    next y' m ha =>
      split at h
      next hb hi =>
        cases h
        exact ⟨i, t, r, y', m, rfl, ha, fun e => (by rw [e] at hb; cases hb), ti_in hi, rfl⟩
      next => cases h
    next => cases h
  next => cases h
theorem ti_as {n : Nat} {lc : Lc} {st : List AV} {w : Wd} {o : Rs ⊕ Cfg} (h : tm_as n lc st w = some o) : ∃ x i t r m, st = .inl x :: .inl i :: .inr t :: r ∧ tm_arr t = some (0, m) ∧ vp_in i m ∧ o = .inr (n, lc, r, wset w t i.toNatClampNeg x) := by
  unfold tm_as tm_go at h
  split at h
  next x i t r =>
    split at h
    next y' m ha =>
      split at h
      next hb hi =>
        cases h
        have e := Nat.eq_of_beq_eq_true hb
        subst e
        exact ⟨x, i, t, r, m, rfl, ha, ti_in hi, rfl⟩
      next => cases h
    next => cases h
  next => cases h
theorem ti_bas {n : Nat} {lc : Lc} {st : List AV} {w : Wd} {o : Rs ⊕ Cfg} (h : tm_bas n lc st w = some o) : ∃ x i t r y m, st = .inl x :: .inl i :: .inr t :: r ∧ tm_arr t = some (y, m) ∧ y ≠ 0 ∧ vp_in i m ∧ o = .inr (n, lc, r, wset w t i.toNatClampNeg (vp_nar (match y with | 1 => .boolean | _ => .byte) x)) := by
  unfold tm_bas tm_go at h
  split at h
  next x i t r =>
    split at h
    next y' m ha =>
      split at h
      next hb hi =>
        cases h
        exact ⟨x, i, t, r, y', m, rfl, ha, fun e => (by rw [e] at hb; cases hb), ti_in hi, rfl⟩
      next => cases h
    next => cases h
  next => cases h
theorem ti_aal {n : Nat} {lc : Lc} {st : List AV} {w : Wd} {o : Rs ⊕ Cfg} (h : tm_aal n lc st w = some o) : ∃ i r, (st = .inl i :: .inr (sg 1) :: r ∧ vp_in i 8 ∧ o = .inr (n, lc, .inr (rw_ (Fin.ofNat 8 i.toNatClampNeg) 0) :: r, w)) ∨ (st = .inl i :: .inr (sg 4) :: r ∧ vp_in i 2 ∧ o = .inr (n, lc, .inr (cit (Fin.ofNat 6 (2 + i.toNatClampNeg)) 0) :: r, w)) := by
  unfold tm_aal tm_go at h
  split at h
  next i r =>
    split at h
    next hi => cases h; exact ⟨i, r, Or.inl ⟨rfl, ti_in hi, rfl⟩⟩
    next => cases h
  next i r =>
    split at h
    next hi => cases h; exact ⟨i, r, Or.inr ⟨rfl, ti_in hi, rfl⟩⟩
    next => cases h
  next => cases h
theorem ti_len {scr : Scr} {n : Nat} {lc : Lc} {st : List AV} {w : Wd} {o : Rs ⊕ Cfg} (h : tm_len scr n lc st w = some o) : ∃ t r, st = .inr t :: r ∧ ((∃ y m, tm_arr t = some (y, m) ∧ o = .inr (n, lc, .inl (nI m) :: r, w)) ∨ (t = sg 99 ∧ ∃ L xs, scr = some (L, xs) ∧ o = .inr (n, lc, .inl (nI L) :: r, w))) := by
  unfold tm_len tm_go at h
  split at h
  next t r =>
    refine ⟨t, r, rfl, ?_⟩
    split at h
    next y m ha => cases h; exact Or.inl ⟨y, m, ha, rfl⟩
    next =>
      split at h
      next hs => cases h; exact Or.inr ⟨ti_isS (by assumption), _, _, rfl, rfl⟩
      next => cases h
  next => cases h
theorem ti_ret {x : Option Rs} {n : Nat} {lc : Lc} {r : List AV} {o : Rs ⊕ Cfg} (h : tm_ret x n lc r = some o) : ∃ v w, x = some (v, w) ∧ o = .inr (n, lc, v.toList ++ r, w) := by
  unfold tm_ret tm_go at h
  split at h
  next v w => cases h; exact ⟨some v, w, rfl, rfl⟩
  next w => cases h; exact ⟨none, w, rfl, rfl⟩
  next => cases h
theorem ti_pop : ∀ (k : Nat) (acc st as r : List AV), tm_pop k acc st = some (as, r) → ∃ pre, st = pre ++ r ∧ pre.length = k ∧ as = pre.reverse ++ acc
  | 0, acc, st, as, r, h => by
    cases h
    exact ⟨[], rfl, rfl, rfl⟩
  | k + 1, acc, [], as, r, h => by cases h
  | k + 1, acc, v :: st, as, r, h => by
    obtain ⟨pre, h1, h2, h3⟩ := ti_pop k (v :: acc) st as r h
    exact ⟨v :: pre, by rw [h1]; rfl, by simp [h2], by simp [h3]⟩
theorem ti_cv {C : CF} {J' b n : Nat} {lc : Lc} {st : List AV} {w : Wd} {o : Rs ⊕ Cfg} (h : tm_cv C J' b n lc st w = some o) : ∃ t as r v w', st = as.reverse ++ .inr t :: r ∧ as.length = b ∧ tm_obj t = tm_mc J' ∧ r.length ≤ 8 ∧ C J' (.inr t :: as) w = some (v, w') ∧ o = .inr (n, lc, v.toList ++ r, w') := by
  unfold tm_cv at h
  split at h
  next t as r hp =>
    split at h
    next hb hl =>
      obtain ⟨v, w', h1, h2⟩ := ti_ret h
      obtain ⟨pre, g1, g2, g3⟩ := ti_pop _ _ _ _ _ hp
      have e : pre = as.reverse ++ [.inr t] := by
        have := congrArg List.reverse g3
        simp at this
        exact this.symm
      refine ⟨t, as, r, v, w', by rw [g1, e]; simp, ?_, Nat.eq_of_beq_eq_true hb, Nat.le_of_ble_eq_true hl, h1, h2⟩
      rw [e] at g2
      simp at g2
      exact g2
    next => cases h
  next => cases h
theorem ti_cs {C : CF} {J' b n : Nat} {lc : Lc} {st : List AV} {w : Wd} {o : Rs ⊕ Cfg} (h : tm_cs C J' b n lc st w = some o) : ∃ as r v w', st = as.reverse ++ r ∧ as.length = b ∧ r.length ≤ 8 ∧ C J' as w = some (v, w') ∧ o = .inr (n, lc, v.toList ++ r, w') := by
  unfold tm_cs at h
  split at h
  next as r hp =>
    split at h
    next hl =>
      obtain ⟨v, w', h1, h2⟩ := ti_ret h
      obtain ⟨pre, g1, g2, g3⟩ := ti_pop _ _ _ _ _ hp
      have e : pre = as.reverse := by
        have := congrArg List.reverse g3
        simp at this
        exact this.symm
      refine ⟨as, r, v, w', by rw [g1, e], ?_, Nat.le_of_ble_eq_true hl, h1, h2⟩
      rw [e] at g2
      simp at g2
      exact g2
    next => cases h
  next => cases h
theorem ti_rv {J : Nat} {st : List AV} {w : Wd} {o : Rs ⊕ Cfg} (h : tm_rv J st w = some o) : ∃ x, st = [.inl x] ∧ o = .inl (some (.inl x), w) ∧ (tm_rk J = 1 ∨ (tm_rk J = 2 ∧ (x = 0 ∨ x = 1))) := by
  unfold tm_rv at h
  split at h
  next x =>
    split at h
    next hk => cases h; exact ⟨x, rfl, rfl, Or.inl hk⟩
    next hk =>
      split at h
      next hx => cases h; exact ⟨x, rfl, rfl, Or.inr ⟨hk, by simpa using hx⟩⟩
      next => cases h
    next => cases h
  next => cases h
theorem ti_ra {J : Nat} {st : List AV} {w : Wd} {o : Rs ⊕ Cfg} (h : tm_ra J st w = some o) : ∃ t, st = [.inr t] ∧ o = .inl (some (.inr t), w) ∧ tm_rk J = 3 := by
  unfold tm_ra at h
  split at h
  next t =>
    split at h
    next hk => cases h; exact ⟨t, rfl, rfl, hk⟩
    next => cases h
  next => cases h
theorem ti_rn {J : Nat} {st : List AV} {w : Wd} {o : Rs ⊕ Cfg} (h : tm_rn J st w = some o) : st = [] ∧ o = .inl (none, w) ∧ tm_rk J = 0 := by
  unfold tm_rn at h
  split at h
  next =>
    split at h
    next hk => cases h; exact ⟨rfl, rfl, hk⟩
    next => cases h
  next => cases h
theorem ti_dup {n : Nat} {lc : Lc} {st : List AV} {w : Wd} {o : Rs ⊕ Cfg} (h : tm_dup n lc st w = some o) : ∃ v r, st = v :: r ∧ o = .inr (n, lc, v :: v :: r, w) := by
  unfold tm_dup tm_go at h
  split at h
  next v r => cases h; exact ⟨v, r, rfl, rfl⟩
  next => cases h
theorem ti_dup2 {n : Nat} {lc : Lc} {st : List AV} {w : Wd} {o : Rs ⊕ Cfg} (h : tm_dup2 n lc st w = some o) : ∃ v u r, st = v :: u :: r ∧ o = .inr (n, lc, v :: u :: v :: u :: r, w) := by
  unfold tm_dup2 tm_go at h
  split at h
  next v u r => cases h; exact ⟨v, u, r, rfl, rfl⟩
  next => cases h
end
section
/-! THE SMALL MACHINE'S RUNS ARE THE MACHINE'S -/
def tm_lv (ad : TA → Nat) (lc : Lc) : List (Nat × Value) := (List.range lc.length).filterMap (fun i => match lc[i]? with
  | some (some v) => some (i, tm_v ad v)
  | _ => none)
def tm_L (ad : TA → Nat) (nL : Nat) (ls : Array Slot) (lc : Lc) : Prop := lc.length = nL ∧ lv_has ls nL (tm_lv ad lc)
theorem tm_v_cat (ad : TA → Nat) (v : AV) : (tm_v ad v).category = 1 := by cases v <;> rfl
theorem tm_lv_mem {ad : TA → Nat} {lc : Lc} {i : Nat} {v : AV} (h : lc[i]? = some (some v)) : (i, tm_v ad v) ∈ tm_lv ad lc := by
  refine List.mem_filterMap.mpr ⟨i, List.mem_range.mpr (List.getElem?_eq_some_iff.mp h).1, ?_⟩
  rw [h]
theorem tm_lv_of {ad : TA → Nat} {lc : Lc} {q : Nat × Value} (h : q ∈ tm_lv ad lc) : ∃ v, lc[q.1]? = some (some v) ∧ q.2 = tm_v ad v := by
  obtain ⟨i, -, hi⟩ := List.mem_filterMap.mp h
  split at hi
  next v hv => cases hi; exact ⟨v, hv, rfl⟩
  next => cases hi
theorem tm_L.get {ad : TA → Nat} {nL : Nat} {ls : Array Slot} {lc : Lc} (h : tm_L ad nL ls lc) {i : Nat} {v : AV} (hi : lc[i]? = some (some v)) : ls[i]? = some (.val (tm_v ad v)) := h.2.2.2 _ (tm_lv_mem hi)
theorem tm_L.set {ad : TA → Nat} {nL : Nat} {ls ls' : Array Slot} {lc : Lc} (h : tm_L ad nL ls lc) {i : Nat} {v : AV} (h' : lv_has ls' nL ((i, tm_v ad v) :: (tm_lv ad lc).filter (fun q => !(q.1 == i) && !(q.1 + 1 == i && q.2.category == 2)))) : tm_L ad nL ls' (lc.set i (some v)) := by
  refine ⟨by rw [List.length_set]; exact h.1, h'.1, h'.2.1, fun q hq => ?_⟩
  obtain ⟨u, h1, h2⟩ := tm_lv_of hq
  by_cases hqi : q.1 = i
  · have hlen : i < lc.length := by
      have := (List.getElem?_eq_some_iff.mp h1).1
      rw [List.length_set] at this
      omega
    rw [hqi, List.getElem?_set_self hlen] at h1
    cases h1
    have e : q = (i, tm_v ad v) := Prod.ext hqi h2
    exact h'.2.2 q (by rw [e]; exact List.mem_cons_self)
  · rw [List.getElem?_set_ne (Ne.symm hqi)] at h1
    have hm : (q.1, tm_v ad u) ∈ tm_lv ad lc := tm_lv_mem h1
    rw [← h2] at hm
    refine h'.2.2 q (List.mem_cons_of_mem _ (List.mem_filter.mpr ⟨hm, ?_⟩))
    have hc : q.2.category = 1 := by rw [h2]; exact tm_v_cat ad u
    simp [hqi, hc]
def tm_A (ad : TA → Nat) : Nat → Prop := fun q => ∃ t ∈ tm_all, q = ad t
def tm_room (d : Nat) : Room := { frames := d, cells := 0, slots := 0, locals := 60 * d }
def tm_ws (J : Nat) : List Jvm.Cond := .code (tm_y J) (tm_cc J) (tm_mL J) (tm_rt J) :: tm_tbl
def tm_Q (D : va_G) (ad : TA → Nat) (cT : Nat → ClassId) (r : Rs) : Array Value → State → Outcome → State → Prop := fun _ st oc t => oc = .returned (r.1.map (tm_v ad)) ∧ va_P D tm_cl (tm_WS ad cT r.2) t.heap ∧ va_F (tm_A ad) st t
def tm_P (D : va_G) (ad : TA → Nat) (cT : Nat → ClassId) (w : Wd) : State → Prop := fun U => va_P D tm_cl (tm_WS ad cT w) U.heap ∧ va_K D tm_cl (tm_tys cT) U
def tm_Ct (l : Launch) (D : va_G) (ad : TA → Nat) (cT : Nat → ClassId) (d J : Nat) (as : List AV) (w : Wd) (r : Rs) : Prop := Met l (tm_y J) (tm_ws J) (tm_room d) (va_Pc (as.map (tm_v ad)) (tm_P D ad cT w)) (tm_Q D ad cT r) 0 0 (tm_A ad)
def tm_Fr (p : Program) (s : State) (m : MethodId) (args : Array Value) (c : Code) (D : va_G) (ad : TA → Nat) (cT : Nat → ClassId) (A : Nat → Prop) (Ts : List Jvm.Cond) (J : Nat) : Prop := p.tables.exec = Jvm.exec ∧ c.code = tm_cc J ∧ c.maxLocals = tm_mL J ∧ s.vm.findClass (tm_cn (tm_mc J)) = some m.cls ∧ (∀ w ∈ Ts, w.before args s = true) ∧ (∀ w ∈ tm_tbl, w ∈ Ts) ∧ va_K D tm_cl (tm_tys cT) s ∧ tm_D A ad
/-- what a call may be taken to do, and the room for it -/
def tm_HC (l : Launch) (R : Room) (D : va_G) (ad : TA → Nat) (cT : Nat → ClassId) (C : CF) : Prop := ∀ J as w r, C J as w = some r → (J < 191 → ∃ d, d + 1 ≤ R.frames ∧ 60 * d + 40 ≤ R.locals ∧ tm_Ct l D ad cT d J as w r) ∧ (900 ≤ J → tm_jdk J as w = some r ∧ 1 ≤ R.frames ∧ 40 ≤ R.locals)
def tm_HS (s : State) (ad : TA → Nat) (A : Nat → Prop) (scr : Scr) : Prop := ∀ L xs, scr = some (L, xs) → va_X (ad (sg 99)) L xs s s.heap ∧ ad (sg 99) < s.heap.size ∧ ¬ A (ad (sg 99))
-- the tables
theorem tm_lk_in {own idx a b : Nat} : ∀ {l : List (Nat × Nat × Nat × Nat × Nat)}, tm_lk own idx l = some (a, b) → ∃ p, (own, idx, a, b, p) ∈ l
  | [], h => by cases h
  | e :: r, h => by
    unfold tm_lk at h
    split at h
    next he =>
      obtain ⟨o, i, x, y, p⟩ := e
      obtain ⟨rfl, rfl⟩ := he
      cases h
      exact ⟨p, List.mem_cons_self⟩
    next =>
      obtain ⟨p, hp⟩ := tm_lk_in h
      exact ⟨p, List.mem_cons_of_mem _ hp⟩
theorem tm_fl_in {own idx a b : Nat} (h : tm_lk own idx tm_fl = some (a, b)) : Jvm.Cond.fieldLink (tm_cn own) idx (tm_T a b).1 (tm_T a b).2.1 (tm_T a b).2.2.1 ∈ tm_tbl := by
  obtain ⟨p, hp⟩ := tm_lk_in h
  have h1 := List.all_eq_true.mp tm_flok _ hp
  exact tm_tables_in (of_decide_eq_true h1) rfl
theorem tm_kl_in {own idx a b : Nat} (h : tm_lk own idx tm_kl = some (a, b)) : Jvm.Cond.constant (tm_cn own) idx (tm_k a b) ∈ tm_tbl := by
  obtain ⟨p, hp⟩ := tm_lk_in h
  have h1 := List.all_eq_true.mp tm_klok _ hp
  exact tm_tables_in (of_decide_eq_true h1) rfl
theorem tm_ml_in {own idx a b : Nat} (h : tm_lk own idx tm_ml = some (a, b)) : Jvm.Cond.methodLink (tm_cn own) idx (tm_mn a) ∈ tm_tbl := by
  obtain ⟨p, hp⟩ := tm_lk_in h
  have h1 := List.all_eq_true.mp tm_mlok _ hp
  exact tm_tables_in (of_decide_eq_true h1) rfl
theorem tm_range (q : Nat → Bool) (f : ∀ i n, ((List.range n).all (fun k => q (i + k))) = true → ∀ J, i ≤ J → J < i + n → q J = true) : True := trivial
theorem tm_rng {q : Nat → Bool} {i n : Nat} (h : ((List.range n).all (fun k => q (i + k))) = true) {J : Nat} (h1 : i ≤ J) (h2 : J < i + n) : q J = true := by
  have h3 := List.all_eq_true.mp h (J - i) (List.mem_range.mpr (by omega))
  rw [show i + (J - i) = J by omega] at h3
  exact h3
theorem tm_mok_all {J : Nat} (h : J < 191) : tm_mok J = true := by
  rcases Nat.lt_or_ge J 16 with h0 | h0
  · exact tm_rng (q := tm_mok) tm_mok0 (by omega) (by omega)
  rcases Nat.lt_or_ge J 32 with h1 | h1
  · exact tm_rng (q := tm_mok) tm_mok1 (by omega) (by omega)
  rcases Nat.lt_or_ge J 48 with h2 | h2
  · exact tm_rng (q := tm_mok) tm_mok2 (by omega) (by omega)
  rcases Nat.lt_or_ge J 64 with h3 | h3
  · exact tm_rng (q := tm_mok) tm_mok3 (by omega) (by omega)
  rcases Nat.lt_or_ge J 80 with h4 | h4
  · exact tm_rng (q := tm_mok) tm_mok4 (by omega) (by omega)
  rcases Nat.lt_or_ge J 96 with h5 | h5
  · exact tm_rng (q := tm_mok) tm_mok5 (by omega) (by omega)
  rcases Nat.lt_or_ge J 112 with h6 | h6
  · exact tm_rng (q := tm_mok) tm_mok6 (by omega) (by omega)
  rcases Nat.lt_or_ge J 128 with h7 | h7
  · exact tm_rng (q := tm_mok) tm_mok7 (by omega) (by omega)
  rcases Nat.lt_or_ge J 144 with h8 | h8
  · exact tm_rng (q := tm_mok) tm_mok8 (by omega) (by omega)
  rcases Nat.lt_or_ge J 160 with h9 | h9
  · exact tm_rng (q := tm_mok) tm_mok9 (by omega) (by omega)
  rcases Nat.lt_or_ge J 176 with h10 | h10
  · exact tm_rng (q := tm_mok) tm_mok10 (by omega) (by omega)
  · exact tm_rng (q := tm_mok) tm_mok11 (by omega) (by omega)
theorem tm_blk_all {q : tm_E → Bool} : ∀ (bs : List (List tm_E)), (∀ i, ((bs.drop i).take 2).all (fun bl => bl.all q) = true) → bs.all (fun bl => bl.all q) = true := by
  intro bs h
  refine List.all_eq_true.mpr fun b hb => ?_
  obtain ⟨i, hi⟩ := List.getElem?_of_mem hb
  refine List.all_eq_true.mp (h i) b ?_
  have h1 : (List.take 2 (List.drop i bs))[0]? = some b := by
    rw [List.getElem?_take, List.getElem?_drop]
    simpa using hi
  exact List.mem_of_getElem? h1
theorem tm_okL {J : Nat} (h : J < 192) {bl : List tm_E} {e : tm_E} (hb : bl ∈ tm_ks J) (he : e ∈ bl) : tm_okE J e = true := by
  have key : ∀ {i n : Nat}, tm_okR i n = true → i ≤ J → J < i + n → tm_okE J e = true := fun h0 h1 h2 => List.all_eq_true.mp (List.all_eq_true.mp (tm_rng (q := tm_okJ) h0 h1 h2) bl hb) e he
  rcases Nat.lt_or_ge J 16 with h0 | h0
  · exact key tm_ok0 (by omega) (by omega)
  rcases Nat.lt_or_ge J 32 with h1 | h1
  · exact key tm_ok1 (by omega) (by omega)
  rcases Nat.lt_or_ge J 48 with h2 | h2
  · exact key tm_ok2 (by omega) (by omega)
  rcases Nat.lt_or_ge J 64 with h3 | h3
  · exact key tm_ok3 (by omega) (by omega)
  rcases Nat.lt_or_ge J 80 with h4 | h4
  · exact key tm_ok4 (by omega) (by omega)
  rcases Nat.lt_or_ge J 96 with h5 | h5
  · exact key tm_ok5 (by omega) (by omega)
  rcases Nat.lt_or_ge J 112 with h6 | h6
  · exact key tm_ok6 (by omega) (by omega)
  rcases Nat.lt_or_ge J 128 with h7 | h7
  · exact key tm_ok7 (by omega) (by omega)
  rcases Nat.lt_or_ge J 144 with h8 | h8
  · exact key tm_ok8 (by omega) (by omega)
  rcases Nat.lt_or_ge J 160 with h9 | h9
  · exact key tm_ok9 (by omega) (by omega)
  rcases Nat.lt_or_ge J 176 with h10 | h10
  · exact key tm_ok10 (by omega) (by omega)
  rcases Nat.lt_or_ge J 191 with h11 | h11
  · exact key tm_ok11 (by omega) (by omega)
  have hJ : J = 191 := by omega
  subst hJ
  obtain ⟨i, hi⟩ := List.getElem?_of_mem hb
  have hl : (tm_ks 191).length = 37 := by decide +kernel
  have hi37 : i < 37 := by have := (List.getElem?_eq_some_iff.mp hi).1; omega
  have kb : ∀ {a : Nat}, tm_okB a 2 = true → a ≤ i → i < a + 2 → tm_okE 191 e = true := by
    intro a h0 h1 h2
    refine List.all_eq_true.mp (List.all_eq_true.mp h0 bl ?_) e he
    have h3 : (List.take 2 (List.drop a (tm_ks 191)))[i - a]? = some bl := by
      rw [List.getElem?_take, if_pos (by omega), List.getElem?_drop, show a + (i - a) = i by omega]
      exact hi
    exact List.mem_of_getElem? h3
  rcases (by omega : i < 2 ∨ (2 ≤ i ∧ i < 4) ∨ (4 ≤ i ∧ i < 6) ∨ (6 ≤ i ∧ i < 8) ∨ (8 ≤ i ∧ i < 10) ∨ (10 ≤ i ∧ i < 12) ∨ (12 ≤ i ∧ i < 14) ∨ (14 ≤ i ∧ i < 16) ∨ (16 ≤ i ∧ i < 18) ∨ 18 ≤ i) with z | z | z | z | z | z | z | z | z | z
  · exact kb tm_okL0 (by omega) (by omega)
  · exact kb tm_okL1 (by omega) (by omega)
  · exact kb tm_okL2 (by omega) (by omega)
  · exact kb tm_okL3 (by omega) (by omega)
  · exact kb tm_okL4 (by omega) (by omega)
  · exact kb tm_okL5 (by omega) (by omega)
  · exact kb tm_okL6 (by omega) (by omega)
  · exact kb tm_okL7 (by omega) (by omega)
  · exact kb tm_okL8 (by omega) (by omega)
  rcases (by omega : (18 ≤ i ∧ i < 20) ∨ (20 ≤ i ∧ i < 22) ∨ (22 ≤ i ∧ i < 24) ∨ (24 ≤ i ∧ i < 26) ∨ (26 ≤ i ∧ i < 28) ∨ (28 ≤ i ∧ i < 30) ∨ (30 ≤ i ∧ i < 32) ∨ (32 ≤ i ∧ i < 34) ∨ (34 ≤ i ∧ i < 36) ∨ 36 ≤ i) with z | z | z | z | z | z | z | z | z | z
  · exact kb tm_okL9 (by omega) (by omega)
  · exact kb tm_okL10 (by omega) (by omega)
  · exact kb tm_okL11 (by omega) (by omega)
  · exact kb tm_okL12 (by omega) (by omega)
  · exact kb tm_okL13 (by omega) (by omega)
  · exact kb tm_okL14 (by omega) (by omega)
  · exact kb tm_okL15 (by omega) (by omega)
  · exact kb tm_okL16 (by omega) (by omega)
  · exact kb tm_okL17 (by omega) (by omega)
  · exact kb tm_okL18 (by omega) (by omega)
theorem tm_fnd_in {pc : Nat} {x : Instr × Nat × Nat × Nat} : ∀ {l : List tm_E}, tm_fnd pc l = some x → (pc, x) ∈ l
  | [], h => by cases h
  | e :: r, h => by
    unfold tm_fnd at h
    split at h
    next he =>
      cases h
      have h1 := Nat.eq_of_beq_eq_true he
      obtain ⟨a, b⟩ := e
      dsimp only at h1
      subst h1
      exact List.mem_cons_self
    next => exact List.mem_cons_of_mem _ (tm_fnd_in h)
theorem tm_at_ok {J pc : Nat} (hJ : J < 192) {ins : Instr} {len a b : Nat} (h : tm_at J pc = some (ins, len, a, b)) : decode (tm_cc J) pc = .ok (ins, len) ∧ tm_ok (tm_mc J) pc ins len a b = true := by
  unfold tm_at at h
  have h1 := tm_fnd_in h
  cases hb : (tm_ks J)[pc / 32]? with
  | none =>
    rw [List.getD_eq_getElem?_getD, hb] at h1
    cases h1
  | some bl =>
    rw [List.getD_eq_getElem?_getD, hb] at h1
    have h2 := tm_okL hJ (List.mem_of_getElem? hb) h1
    unfold tm_okE at h2
    simp only [Bool.and_eq_true, decide_eq_true_eq] at h2
    exact h2
end
section
/-! one instruction of the small machine is one of the machine -/
def tm_Go (p : Program) (l : Launch) (e : Env) (R : Room) (s : State) (m : MethodId) (args : Array Value) (below : List Frame) (meth : Method) (c : Code) (cells slots : Nat) (Q : State → Prop) (D : va_G) (ad : TA → Nat) (cT : Nat → ClassId) (A : Nat → Prop) (J : Nat) (x : Cfg) : Prop := ∀ (ls : Array Slot) (H : Heap) (locs : List Loc), tm_L ad (tm_mL J) ls x.2.1 → va_P D tm_cl (tm_WS ad cT x.2.2.2) H → va_S A s.heap H locs → W p l e R s m args below meth c H locs cells slots Q (F0 m x.1 ls (x.2.2.1.map (tm_v ad)))
def tm_Rt (p : Program) (l : Launch) (e : Env) (R : Room) (s : State) (m : MethodId) (args : Array Value) (below : List Frame) (meth : Method) (c : Code) (cells slots : Nat) (Q : State → Prop) (D : va_G) (ad : TA → Nat) (cT : Nat → ClassId) (A : Nat → Prop) (J : Nat) (r : Rs) : Prop := ∀ (pc : Nat) (ls : Array Slot) (H : Heap) (locs : List Loc), va_P D tm_cl (tm_WS ad cT r.2) H → va_S A s.heap H locs →
  (∀ x, r.1 = some (.inl x) → decode (tm_cc J) pc = .ok (.ireturn, 1) → (tm_rk J = 1 ∨ (tm_rk J = 2 ∧ (x = 0 ∨ x = 1))) → W p l e R s m args below meth c H locs cells slots Q (F0 m pc ls [.int x])) ∧
  (∀ t, r.1 = some (.inr t) → decode (tm_cc J) pc = .ok (.areturn, 1) → tm_rk J = 3 → W p l e R s m args below meth c H locs cells slots Q (F0 m pc ls [.ref (ad t)])) ∧
  (r.1 = none → decode (tm_cc J) pc = .ok (.return_, 1) → tm_rk J = 0 → W p l e R s m args below meth c H locs cells slots Q (F0 m pc ls []))
theorem tm_cat_sum (ad : TA → Nat) : ∀ r : List AV, ((r.map (tm_v ad)).map fun v => v.category).sum = r.length
  | [] => rfl
  | v :: r => by
    simp only [List.map_cons, List.sum_cons, List.length_cons, tm_v_cat]
    rw [tm_cat_sum ad r]
    omega
theorem tm_arr_y {t : TA} {y n : Nat} (h : tm_arr t = some (y, n)) : y = 0 ∨ y = 1 ∨ y = 2 := by
  rcases t with ⟨c, p⟩ | ⟨r, p⟩ | j
  all_goals
    unfold tm_arr at h
    dsimp only at h
    split at h
    all_goals first | (cases h; done) | (cases h; omega)
theorem ti_cpy {as : List AV} {w : Wd} {r : Rs} (h : tm_jdk 999 as w = some r) : ∃ s0 sp d0 dp n n0 n1, as = [.inr s0, .inl sp, .inr d0, .inl dp, .inl n] ∧ tm_arr s0 = some (0, n0) ∧ tm_arr d0 = some (0, n1) ∧ (¬ sp < 0 ∧ ¬ dp < 0 ∧ ¬ n < 0 ∧ sp.toNatClampNeg + n.toNatClampNeg ≤ n0 ∧ dp.toNatClampNeg + n.toNatClampNeg ≤ n1) ∧ r = (none, fun t k => if t = d0 then va_cpy (w s0) (w d0) sp.toNatClampNeg dp.toNatClampNeg n.toNatClampNeg k else w t k) := by
  unfold tm_jdk at h
  split at h
  next s0 sp d0 dp n _ =>
    split at h
    next n0 n1 h0 h1 =>
      split at h
      next hc => cases h; exact ⟨s0, sp, d0, dp, n, n0, n1, rfl, h0, h1, hc, rfl⟩
      next => cases h
    next => cases h
  next hJ => exact absurd hJ (by decide)
  next hJ => exact absurd hJ (by decide)
  next => cases h
theorem ti_max {as : List AV} {w : Wd} {r : Rs} (h : tm_jdk 997 as w = some r) : ∃ x y, as = [.inl x, .inl y] ∧ r = (some (.inl (if x < y then y else x)), w) := by
  unfold tm_jdk at h
  split at h
  next hJ => exact absurd hJ (by decide)
  next x y _ => cases h; exact ⟨x, y, rfl, rfl⟩
  next hJ => exact absurd hJ (by decide)
  next => cases h
theorem ti_min {as : List AV} {w : Wd} {r : Rs} (h : tm_jdk 996 as w = some r) : ∃ x y, as = [.inl x, .inl y] ∧ r = (some (.inl (if y < x then y else x)), w) := by
  unfold tm_jdk at h
  split at h
  next hJ => exact absurd hJ (by decide)
  next hJ => exact absurd hJ (by decide)
  next x y _ => cases h; exact ⟨x, y, rfl, rfl⟩
  next => cases h
section
variable {p : Program} {l : Launch} {e : Env} {R : Room} {s : State} {m : MethodId} {args : Array Value} {below : List Frame} {meth : Method} {c : Code} {cells slots : Nat} {Q : State → Prop}
variable {D : va_G} {ad : TA → Nat} {cT : Nat → ClassId} {A : Nat → Prop} {Ts : List Jvm.Cond} {J : Nat} {C : CF} {scr : Scr}
theorem tm_call {H : Heap} {locs : List Loc} {pc : Nat} {ls : Array Slot} {st0 rest : List Value} {r : Rs} {a' : Array Value} (hr : va_Run p l e R s m args below meth c H locs cells slots 0 0 (F0 m pc ls st0) rest (tm_Q D ad cT r a') (tm_A ad)) (hS : va_S A s.heap H locs) (hA : ∀ q, tm_A ad q → A q)
    (kk : ∀ (H1 : Heap) (locs1 : List Loc), va_P D tm_cl (tm_WS ad cT r.2) H1 → va_S A s.heap H1 locs1 → W p l e R s m args below meth c H1 locs1 cells slots Q (F0 m (pc + 3) ls ((r.1.map (tm_v ad)).toList ++ rest))) : W p l e R s m args below meth c H locs cells slots Q (F0 m pc ls st0) := by
  intro T hT X
  obtain ⟨v, st₀, t, T', L, h0, X', hL, e1, e2, ⟨hv, hp, hz, hk⟩, st⟩ := hr T hT X
  cases hv
  rw [h0] at hz hk
  obtain ⟨t2, a1, b1⟩ := kk T'.heap (locs ++ L) (by rw [e1]; exact hp)
    ⟨Nat.le_trans hS.1 (by rw [e1]; exact hz), fun q h1 h2 => by rw [e1, hk q (Nat.lt_of_lt_of_le h1 hS.1) (fun z => h2 (hA q z))]; exact hS.2.1 q h1 h2, fun q hq => by
      rcases List.mem_append.mp hq with h | h
      · exact hS.2.2 q h
      · exact hA _ (hL q h)⟩ T' rfl X'
  exact ⟨t2, st t2 a1, b1⟩
theorem tm_A_of (F : tm_Fr p s m args c D ad cT A Ts J) : ∀ q, tm_A ad q → A q := by
  rintro q ⟨t, ht, rfl⟩
  exact F.2.2.2.2.2.2.2.1 t ht
theorem tm_gets (F : tm_Fr p s m args c D ad cT A Ts J) {pc x a b n : Nat} {lc : Lc} {st : List AV} {w : Wd} {o : Rs ⊕ Cfg} (hd : decode (tm_cc J) pc = .ok (.getfield x, 3)) (h1 : tm_lk (tm_mc J) x tm_fl = some (a, b)) (h2 : a < 8) (h3 : b < tm_N a) (h : tm_gf a b (pc + 3) lc st w = some o) (kk : ∀ c', o = .inr c' → tm_Go p l e R s m args below meth c cells slots Q D ad cT A J c') : tm_Go p l e R s m args below meth c cells slots Q D ad cT A J (pc, lc, st, w) := by
  obtain ⟨hx, hb, hml, hown, hts, hTs, hK, hD⟩ := F
  obtain ⟨t, r, rfl, rfl, hc⟩ := ti_gf h
  intro ls H locs hL hP hS
  obtain ⟨q0, hq, hat⟩ := tm_at_WS (ad := ad) (cT := cT) (tm_obj_in h2)
  have e0 := hat w
  rw [tm_cell_o h2] at e0
  have hfv : (tm_fs ad w t)[b]? = some (tm_fv ad w t b) := tm_fs_at h3
  rcases hc with ⟨u, hu, rfl⟩ | ⟨hu, rfl⟩
  · have ev : tm_fv ad w t b = .ref (ad u) := by unfold tm_fv; rw [hu]
    rw [ev] at hfv
    exact va_get (C := tm_cn (tm_obj t)) (T := tm_T (tm_obj t)) (N := tm_N (tm_obj t)) hx hb hts (fun w hw => hTs w (tm_lys_in h2 w hw)) hown hK hP q0 e0 (tm_cls h2) b h3 (hts _ (hTs _ (tm_fl_in h1))) (fun _ h => h) hfv hd (kk _ rfl ls H locs hL hP hS)
  · have ev : tm_fv ad w t b = .int (w t b) := by unfold tm_fv; rw [hu]
    rw [ev] at hfv
    exact va_get (C := tm_cn (tm_obj t)) (T := tm_T (tm_obj t)) (N := tm_N (tm_obj t)) hx hb hts (fun w hw => hTs w (tm_lys_in h2 w hw)) hown hK hP q0 e0 (tm_cls h2) b h3 (hts _ (hTs _ (tm_fl_in h1))) (fun _ h => h) hfv hd (kk _ rfl ls H locs hL hP hS)
theorem tm_puts (F : tm_Fr p s m args c D ad cT A Ts J) {pc x a b n : Nat} {lc : Lc} {st : List AV} {w : Wd} {o : Rs ⊕ Cfg} (hd : decode (tm_cc J) pc = .ok (.putfield x, 3)) (h1 : tm_lk (tm_mc J) x tm_fl = some (a, b)) (h2 : a < 8) (h3 : b < tm_N a) (h : tm_pf a b (pc + 3) lc st w = some o) (kk : ∀ c', o = .inr c' → tm_Go p l e R s m args below meth c cells slots Q D ad cT A J c') : tm_Go p l e R s m args below meth c cells slots Q D ad cT A J (pc, lc, st, w) := by
  obtain ⟨hx, hb, hml, hown, hts, hTs, hK, hD⟩ := F
  obtain ⟨x0, t, r, rfl, rfl, hu, hf, rfl⟩ := ti_pf h
  intro ls H locs hL hP hS
  obtain ⟨q0, hq, hat⟩ := tm_at_WS (ad := ad) (cT := cT) (tm_obj_in h2)
  have e0 := hat w
  rw [tm_cell_o h2] at e0
  obtain ⟨hfin, hty⟩ := tm_fld h2 h3 hu
  have hpd := tm_tys_of h2 b h3
  rw [hty] at hpd
  have hnf : narrow (if tm_obj t = 2 ∧ b = 1 then FieldType.boolean else .int) (.int x0) = .int x0 ∧ fits (if tm_obj t = 2 ∧ b = 1 then FieldType.boolean else .int) (.int x0) = true := by
    by_cases hc : tm_obj t = 2 ∧ b = 1
    · rw [if_pos hc]
      rcases ti_fit hf hc with rfl | rfl
      · exact ⟨by decide, by decide⟩
      · exact ⟨by decide, by decide⟩
    · rw [if_neg hc]
      exact ⟨rfl, rfl⟩
  refine va_put (C := tm_cn (tm_obj t)) (T := tm_T (tm_obj t)) (N := tm_N (tm_obj t)) hx hb hts (fun w hw => hTs w (tm_lys_in h2 w hw)) (tm_t (tm_obj t)) (tm_tys_of h2) (tm_nms_of h2) hown hK hP (hD.va cT w) hS q0 e0 (tm_cls h2) b h3 (hts _ (hTs _ (tm_fl_in h1))) (fun _ h => h) hfin hpd hnf.1 hnf.2 (by unfold tm_fs; rw [List.length_map, List.length_range]; exact h3) hd (fun H1 locs1 hP1 _ hS1 => ?_)
  have hP1 : va_P D tm_cl ((tm_WS ad cT w).set q0 (ad t, .inr (tm_obj t, (tm_fs ad w t).set b (.int x0)))) H1 := hP1
  rw [tm_set_WS (w' := wset w t b x0) hq (by rw [tm_cell_o h2, tm_fs_set hu]) (fun u hne => wset_ne hne)] at hP1
  exact kk _ rfl ls H1 locs1 hL hP1 hS1
theorem tm_sto (F : tm_Fr p s m args c D ad cT A Ts J) {pc : Nat} {lc : Lc} {st : List AV} {w : Wd} {o : Rs ⊕ Cfg} (hd : decode (tm_cc J) pc = .ok (.iastore, 1)) (h : tm_as (pc + 1) lc st w = some o) (kk : ∀ c', o = .inr c' → tm_Go p l e R s m args below meth c cells slots Q D ad cT A J c') : tm_Go p l e R s m args below meth c cells slots Q D ad cT A J (pc, lc, st, w) := by
  obtain ⟨hx, hb, hml, hown, hts, hTs, hK, hD⟩ := F
  obtain ⟨x, i, t, r, n, rfl, ha, hi, rfl⟩ := ti_as h
  intro ls H locs hL hP hS
  obtain ⟨q0, hq, hat⟩ := tm_at_WS (ad := ad) (cT := cT) (tm_arr_in ha).1
  have e0 := hat w
  rw [tm_cell_a ha] at e0
  refine va_iast hx hb hK hP (hD.va cT w) hS q0 0 e0 rfl hi hd (fun H1 locs1 hP1 _ hS1 => ?_)
  rw [tm_set_WS (w' := wset w t i.toNatClampNeg x) hq (by rw [tm_cell_a ha, wset_upd]) (fun u hne => wset_ne hne)] at hP1
  exact kk _ rfl ls H1 locs1 hL hP1 hS1
theorem tm_stob (F : tm_Fr p s m args c D ad cT A Ts J) {pc : Nat} {lc : Lc} {st : List AV} {w : Wd} {o : Rs ⊕ Cfg} (hd : decode (tm_cc J) pc = .ok (.bastore, 1)) (h : tm_bas (pc + 1) lc st w = some o) (kk : ∀ c', o = .inr c' → tm_Go p l e R s m args below meth c cells slots Q D ad cT A J c') : tm_Go p l e R s m args below meth c cells slots Q D ad cT A J (pc, lc, st, w) := by
  obtain ⟨hx, hb, hml, hown, hts, hTs, hK, hD⟩ := F
  obtain ⟨x, i, t, r, y, n, rfl, ha, hy, hi, rfl⟩ := ti_bas h
  intro ls H locs hL hP hS
  obtain ⟨q0, hq, hat⟩ := tm_at_WS (ad := ad) (cT := cT) (tm_arr_in ha).1
  have e0 := hat w
  rw [tm_cell_a ha] at e0
  rcases tm_arr_y ha with rfl | rfl | rfl
  · exact absurd rfl hy
  · refine va_zast hx hb hK hP (hD.va cT w) hS q0 1 e0 rfl hi hd (fun H1 locs1 hP1 _ hS1 => ?_)
    rw [tm_set_WS (w' := wset w t i.toNatClampNeg (vp_nar .boolean x)) hq (by rw [tm_cell_a ha, wset_upd]) (fun u hne => wset_ne hne)] at hP1
    exact kk _ rfl ls H1 locs1 hL hP1 hS1
  · refine va_bast hx hb hK hP (hD.va cT w) hS q0 2 e0 rfl hi hd (fun H1 locs1 hP1 _ hS1 => ?_)
    rw [tm_set_WS (w' := wset w t i.toNatClampNeg (vp_nar .byte x)) hq (by rw [tm_cell_a ha, wset_upd]) (fun u hne => wset_ne hne)] at hP1
    exact kk _ rfl ls H1 locs1 hL hP1 hS1
theorem tm_lod (F : tm_Fr p s m args c D ad cT A Ts J) (HS : tm_HS s ad A scr) {pc : Nat} {lc : Lc} {st : List AV} {w : Wd} {o : Rs ⊕ Cfg} (hd : decode (tm_cc J) pc = .ok (.iaload, 1)) (h : tm_al 0 scr (pc + 1) lc st w = some o) (kk : ∀ c', o = .inr c' → tm_Go p l e R s m args below meth c cells slots Q D ad cT A J c') : tm_Go p l e R s m args below meth c cells slots Q D ad cT A J (pc, lc, st, w) := by
  obtain ⟨hx, hb, hml, hown, hts, hTs, hK, hD⟩ := F
  obtain ⟨i, t, r, rfl, ⟨n, ha, hi, rfl⟩ | ⟨rfl, L, xs, hsc, hi, rfl⟩⟩ := ti_al h
  · intro ls H locs hL hP hS
    obtain ⟨q0, hq, hat⟩ := tm_at_WS (ad := ad) (cT := cT) (tm_arr_in ha).1
    have e0 := hat w
    rw [tm_cell_a ha] at e0
    exact va_iald hx hb hK hP q0 0 e0 rfl hi hd (kk _ rfl ls H locs hL hP hS)
  · intro ls H locs hL hP hS
    obtain ⟨hX, hbl, hbA⟩ := HS L xs hsc
    exact va_sld hx hb hX hbl hbA hS hi hd (kk _ rfl ls H locs hL hP hS)
theorem tm_lodb (F : tm_Fr p s m args c D ad cT A Ts J) {pc : Nat} {lc : Lc} {st : List AV} {w : Wd} {o : Rs ⊕ Cfg} (hd : decode (tm_cc J) pc = .ok (.baload, 1)) (h : tm_bal (pc + 1) lc st w = some o) (kk : ∀ c', o = .inr c' → tm_Go p l e R s m args below meth c cells slots Q D ad cT A J c') : tm_Go p l e R s m args below meth c cells slots Q D ad cT A J (pc, lc, st, w) := by
  obtain ⟨hx, hb, hml, hown, hts, hTs, hK, hD⟩ := F
  obtain ⟨i, t, r, y, n, rfl, ha, hy, hi, rfl⟩ := ti_bal h
  intro ls H locs hL hP hS
  obtain ⟨q0, hq, hat⟩ := tm_at_WS (ad := ad) (cT := cT) (tm_arr_in ha).1
  have e0 := hat w
  rw [tm_cell_a ha] at e0
  rcases tm_arr_y ha with rfl | rfl | rfl
  · exact absurd rfl hy
  · exact va_zald hx hb hK hP q0 1 e0 rfl hi hd (kk _ rfl ls H locs hL hP hS)
  · exact va_bald hx hb hK hP q0 2 e0 rfl hi hd (kk _ rfl ls H locs hL hP hS)
theorem tm_lodq (F : tm_Fr p s m args c D ad cT A Ts J) {pc : Nat} {lc : Lc} {st : List AV} {w : Wd} {o : Rs ⊕ Cfg} (hd : decode (tm_cc J) pc = .ok (.aaload, 1)) (h : tm_aal (pc + 1) lc st w = some o) (kk : ∀ c', o = .inr c' → tm_Go p l e R s m args below meth c cells slots Q D ad cT A J c') : tm_Go p l e R s m args below meth c cells slots Q D ad cT A J (pc, lc, st, w) := by
  obtain ⟨hx, hb, hml, hown, hts, hTs, hK, hD⟩ := F
  obtain ⟨i, r, ⟨rfl, hi, rfl⟩ | ⟨rfl, hi, rfl⟩⟩ := ti_aal h
  · intro ls H locs hL hP hS
    obtain ⟨q0, hq, hat⟩ := tm_at_WS (ad := ad) (cT := cT) (tm_all_sg (j := 1) (by decide))
    exact va_aldq hx hb hK hP q0 3 (hat w) rfl hi hd (kk _ rfl ls H locs hL hP hS)
  · intro ls H locs hL hP hS
    obtain ⟨q0, hq, hat⟩ := tm_at_WS (ad := ad) (cT := cT) (tm_all_sg (j := 4) (by decide))
    exact va_aldq hx hb hK hP q0 4 (hat w) rfl hi hd (kk _ rfl ls H locs hL hP hS)
theorem tm_lens (F : tm_Fr p s m args c D ad cT A Ts J) (HS : tm_HS s ad A scr) {pc : Nat} {lc : Lc} {st : List AV} {w : Wd} {o : Rs ⊕ Cfg} (hd : decode (tm_cc J) pc = .ok (.arraylength, 1)) (h : tm_len scr (pc + 1) lc st w = some o) (kk : ∀ c', o = .inr c' → tm_Go p l e R s m args below meth c cells slots Q D ad cT A J c') : tm_Go p l e R s m args below meth c cells slots Q D ad cT A J (pc, lc, st, w) := by
  obtain ⟨hx, hb, hml, hown, hts, hTs, hK, hD⟩ := F
  obtain ⟨t, r, rfl, ⟨y, n, ha, rfl⟩ | ⟨rfl, L, xs, hsc, rfl⟩⟩ := ti_len h
  · intro ls H locs hL hP hS
    obtain ⟨q0, hq, hat⟩ := tm_at_WS (ad := ad) (cT := cT) (tm_arr_in ha).1
    have e0 := hat w
    rw [tm_cell_a ha] at e0
    rcases tm_arr_y ha with rfl | rfl | rfl
    · exact va_alen hx hb hK hP q0 0 e0 (ty := .int) rfl rfl hd (kk _ rfl ls H locs hL hP hS)
    · exact va_alen hx hb hK hP q0 1 e0 (ty := .boolean) rfl rfl hd (kk _ rfl ls H locs hL hP hS)
    · exact va_alen hx hb hK hP q0 2 e0 (ty := .byte) rfl rfl hd (kk _ rfl ls H locs hL hP hS)
  · intro ls H locs hL hP hS
    obtain ⟨hX, hbl, hbA⟩ := HS L xs hsc
    exact va_slen hx hb hX hbl hbA hS hd (kk _ rfl ls H locs hL hP hS)
end
end
section
/-! calls; every instruction; a whole run; contracts -/
section
variable {p : Program} {l : Launch} {e : Env} {R : Room} {s : State} {m : MethodId} {args : Array Value} {below : List Frame} {meth : Method} {c : Code} {cells slots : Nat} {Q : State → Prop}
variable {D : va_G} {ad : TA → Nat} {cT : Nat → ClassId} {A : Nat → Prop} {Ts : List Jvm.Cond} {J : Nat} {C : CF} {scr : Scr}
theorem tm_mok_of {J : Nat} (h : J < 191) : Jvm.Cond.code (tm_y J) (tm_cc J) (tm_mL J) (tm_rt J) ∈ tm_tbl ∧ (tm_st J = true → Jvm.Cond.static (tm_y J) ∈ tm_tbl) ∧ (tm_st J = false → Jvm.Cond.instanceMethod (tm_y J) ∈ tm_tbl ∧ Jvm.Cond.selects (tm_y J).cls (tm_y J) (tm_y J) ∈ tm_tbl) ∧ Jvm.Cond.initialized (tm_y J).cls ∈ tm_tbl ∧ ((tm_y J).cls ≠ "java/lang/invoke/MethodHandle" ∧ (tm_y J).cls ≠ "java/lang/invoke/VarHandle") ∧ (parseMethodDescriptor (tm_y J).desc).map (fun d => d.parameters.length) = some (tm_na J) ∧ plainName (tm_y J).cls = true ∧ tm_mL J ≤ 20 := by
  have h1 := tm_mok_all h
  unfold tm_mok at h1
  simp only [Bool.and_eq_true, decide_eq_true_eq] at h1
  obtain ⟨⟨⟨⟨⟨⟨⟨a1, a2⟩, a3⟩, a4⟩, a5⟩, a6⟩, a7⟩, a8⟩ := h1
  refine ⟨tm_in_tbl (List.mem_of_getElem? a1) rfl, fun hs => ?_, fun hs => ?_, tm_in_tbl (List.mem_of_getElem? a3) rfl, a4, a5, a6, a7⟩
  · rw [if_pos hs] at a2
    exact tm_in_tbl (List.mem_of_getElem? (of_decide_eq_true a2)) rfl
  · rw [if_neg (by rw [hs]; exact fun z => by cases z)] at a2
    simp only [Bool.and_eq_true, decide_eq_true_eq] at a2
    exact ⟨tm_in_tbl (List.mem_of_getElem? a2.1) rfl, tm_in_tbl (List.mem_of_getElem? a2.2) rfl⟩
theorem tm_callB (F : tm_Fr p s m args c D ad cT A Ts J) {x a b d : Nat} (ha : a < 191) (hl : tm_lk (tm_mc J) x tm_ml = some (a, b)) (hb : tm_na a = b) (h1 : d + 1 ≤ R.frames) (h2 : 60 * d + 40 ≤ R.locals) : CallB R s args (tm_cn (tm_mc J)) x (tm_y a) (tm_cc a) (tm_mL a) (tm_rt a) (tm_ws a) (tm_room d) 0 0 b := by
  obtain ⟨hx, hbc, hml, hown, hts, hTs, hK, hD⟩ := F
  obtain ⟨b1, b2, b3, b4, b5, b6, b7, b8⟩ := tm_mok_of ha
  have hG : GoodIn Ts (tm_ws a) := by
    intro w hw
    unfold tm_ws at hw
    rcases List.mem_cons.mp hw with rfl | hw
    · exact tm_good hTs _ b1
    · exact tm_good hTs _ hw
  have hlk := hts _ (hTs _ (tm_ml_in hl))
  have hmn : tm_mn a = tm_y a := by
    unfold tm_mn
    rw [if_neg (by omega), if_neg (by omega), if_neg (by omega)]
  rw [hmn] at hlk
  refine callB_of b hts hG rfl rfl rfl (hts _ (hTs _ b4)) hlk ⟨b5.1, b5.2, by rw [b6, hb]⟩ ⟨h1, ?_⟩
  show 8 + (tm_mL a + 11) + 60 * d ≤ R.locals
  omega
theorem tm_blind (as : List Value) (w : Wd) : FrameBlind (va_Pc as (tm_P D ad cT w)) := by
  intro a U g mk q
  obtain ⟨h1, h2, h3⟩ := q
  exact ⟨h1, h2, va_K.moved (u := U) (U := U.calling g mk a) (Vm.Alike.refl U.vm) h3⟩
theorem tm_ivv (F : tm_Fr p s m args c D ad cT A Ts J) (HC : tm_HC l R D ad cT C) (hcs : cells ≤ R.cells ∧ slots ≤ R.slots) {pc x a b : Nat} {lc : Lc} {st : List AV} {w : Wd} {o : Rs ⊕ Cfg} (hd : decode (tm_cc J) pc = .ok (.invokevirtual x, 3)) (hl : tm_lk (tm_mc J) x tm_ml = some (a, b)) (hst : tm_st a = false) (ha : a < 191) (hna : tm_na a = b) (h : tm_cv C a b (pc + 3) lc st w = some o) (kk : ∀ c', o = .inr c' → tm_Go p l e R s m args below meth c cells slots Q D ad cT A J c') : tm_Go p l e R s m args below meth c cells slots Q D ad cT A J (pc, lc, st, w) := by
  obtain ⟨t, as, r, v, w', rfl, hlen, hob, hrl, hC, rfl⟩ := ti_cv h
  obtain ⟨d, h1, h2, hM⟩ := (HC a _ _ _ hC).1 ha
  have hA := tm_A_of F
  have hB := tm_callB (R := R) F ha hl hna h1 h2
  obtain ⟨hx, hbc, hml, hown, hts, hTs, hK, hD⟩ := F
  obtain ⟨b1, b2, b3, b4, b5, b6, b7, b8⟩ := tm_mok_of ha
  intro ls H locs hL hP hS
  have hP : va_P D tm_cl (tm_WS ad cT w) H := hP
  have h8 : tm_obj t < 8 := by
    rcases Nat.lt_or_ge (tm_obj t) 8 with z | z
    · exact z
    · exfalso
      have hm : ∀ J : Nat, J < 191 → tm_st J = false → tm_mc J < 8 := by decide +kernel
      have := hm a ha hst
      omega
  obtain ⟨q0, hq, hat⟩ := tm_at_WS (ad := ad) (cT := cT) (tm_obj_in h8)
  have e0 := hat w
  rw [tm_cell_o h8] at e0
  have hrec := va_recv hK hP (tm_cls h8) e0
  have hcn : (tm_y a).cls = tm_cn (tm_obj t) := by rw [hob]; rfl
  have hstk : ((as.reverse ++ .inr t :: r).map (tm_v ad)) = (as.map (tm_v ad)).reverse ++ .ref (ad t) :: r.map (tm_v ad) := by
    rw [List.map_append, List.map_cons, List.map_reverse]
    rfl
  have hrun : va_Run p l e R s m args below meth c H locs cells slots 0 0 (F0 m pc ls ((as.reverse ++ .inr t :: r).map (tm_v ad))) (r.map (tm_v ad)) (tm_Q D ad cT (v, w') (Value.ref (ad t) :: as.map (tm_v ad)).toArray) (tm_A ad) :=
    va_runV (own := tm_cn (tm_mc J)) (C := tm_cn (tm_obj t)) (b := ad t) (As := as.map (tm_v ad)) (nL := tm_mL J) (n := b) ⟨hx, hbc, hml, hown, hts⟩ hM ⟨hB, hts _ (hTs _ (b3 hst).1), by rw [← hcn]; exact hts _ (hTs _ (b3 hst).2)⟩
      ⟨tm_blind _ _, hrec, fun U hU hW => ⟨rfl, by rw [hU]; exact hP, va_K.moved hW.alike hK⟩⟩ rfl (by rw [List.length_map]; exact hlen) hL.2.1 hstk (by rw [tm_cat_sum]; show 2 * 0 + _ ≤ 8; omega) hd ⟨hcs.1, hcs.2⟩
  refine tm_call hrun hS hA (fun H1 locs1 hP1 hS1 => ?_)
  have e1 : ((v.map (tm_v ad)).toList ++ r.map (tm_v ad)) = (v.toList ++ r).map (tm_v ad) := by cases v <;> simp
  show W p l e R s m args below meth c H1 locs1 cells slots Q (F0 m (pc + 3) ls ((v.map (tm_v ad)).toList ++ r.map (tm_v ad)))
  rw [e1]
  exact kk _ rfl ls H1 locs1 hL hP1 hS1
theorem tm_ivs (F : tm_Fr p s m args c D ad cT A Ts J) (HC : tm_HC l R D ad cT C) (hcs : cells ≤ R.cells ∧ slots ≤ R.slots) {pc x a b : Nat} {lc : Lc} {st : List AV} {w : Wd} {o : Rs ⊕ Cfg} (hd : decode (tm_cc J) pc = .ok (.invokestatic x, 3)) (hl : tm_lk (tm_mc J) x tm_ml = some (a, b)) (hst : tm_st a = true) (ha : a < 191) (hna : tm_na a = b) (h : tm_cs C a b (pc + 3) lc st w = some o) (kk : ∀ c', o = .inr c' → tm_Go p l e R s m args below meth c cells slots Q D ad cT A J c') : tm_Go p l e R s m args below meth c cells slots Q D ad cT A J (pc, lc, st, w) := by
  obtain ⟨as, r, v, w', rfl, hlen, hrl, hC, rfl⟩ := ti_cs h
  obtain ⟨d, h1, h2, hM⟩ := (HC a _ _ _ hC).1 ha
  have hA := tm_A_of F
  have hB := tm_callB (R := R) F ha hl hna h1 h2
  obtain ⟨hx, hbc, hml, hown, hts, hTs, hK, hD⟩ := F
  obtain ⟨b1, b2, b3, b4, b5, b6, b7, b8⟩ := tm_mok_of ha
  intro ls H locs hL hP hS
  have hP : va_P D tm_cl (tm_WS ad cT w) H := hP
  have hstk : ((as.reverse ++ r).map (tm_v ad)) = (as.map (tm_v ad)).reverse ++ r.map (tm_v ad) := by
    rw [List.map_append, List.map_reverse]
  have hrun : va_Run p l e R s m args below meth c H locs cells slots 0 0 (F0 m pc ls ((as.reverse ++ r).map (tm_v ad))) (r.map (tm_v ad)) (tm_Q D ad cT (v, w') (as.map (tm_v ad)).toArray) (tm_A ad) :=
    va_runS (own := tm_cn (tm_mc J)) (As := as.map (tm_v ad)) (nL := tm_mL J) (n := b) ⟨hx, hbc, hml, hown, hts⟩ hM ⟨hB, hts _ (hTs _ (b2 hst))⟩
      ⟨tm_blind _ _, fun U hU hW => ⟨rfl, by rw [hU]; exact hP, va_K.moved hW.alike hK⟩⟩ rfl (by rw [List.length_map]; exact hlen) hL.2.1 hstk (by rw [tm_cat_sum]; show 2 * 0 + _ ≤ 8; omega) hd ⟨hcs.1, hcs.2⟩
  refine tm_call hrun hS hA (fun H1 locs1 hP1 hS1 => ?_)
  have e1 : ((v.map (tm_v ad)).toList ++ r.map (tm_v ad)) = (v.toList ++ r).map (tm_v ad) := by cases v <;> simp
  show W p l e R s m args below meth c H1 locs1 cells slots Q (F0 m (pc + 3) ls ((v.map (tm_v ad)).toList ++ r.map (tm_v ad)))
  rw [e1]
  exact kk _ rfl ls H1 locs1 hL hP1 hS1
theorem tm_w (F : tm_Fr p s m args c D ad cT A Ts J) {w : Jvm.Cond} (h : w ∈ lw_tbl) (g : goodWord w = true) : w.before args s = true := F.2.2.2.2.1 _ (F.2.2.2.2.2.1 _ (tm_in_tbl h g))
theorem tm_ivj (F : tm_Fr p s m args c D ad cT A Ts J) (HC : tm_HC l R D ad cT C) (hcs : cells ≤ R.cells ∧ slots ≤ R.slots) {pc x a b : Nat} {lc : Lc} {st : List AV} {w : Wd} {o : Rs ⊕ Cfg} (hd : decode (tm_cc J) pc = .ok (.invokestatic x, 3)) (hl : tm_lk (tm_mc J) x tm_ml = some (a, b)) (ha : a = 999 ∨ a = 997 ∨ a = 996) (h : tm_cs C a b (pc + 3) lc st w = some o) (kk : ∀ c', o = .inr c' → tm_Go p l e R s m args below meth c cells slots Q D ad cT A J c') : tm_Go p l e R s m args below meth c cells slots Q D ad cT A J (pc, lc, st, w) := by
  obtain ⟨as, r, v, w', rfl, hlen, hrl, hC, rfl⟩ := ti_cs h
  obtain ⟨hj, h1, h2⟩ := (HC a _ _ _ hC).2 (by omega)
  have hlk := F.2.2.2.2.1 _ (F.2.2.2.2.2.1 _ (tm_ml_in hl))
  have hx := F.1
  have hb := F.2.1
  have hml := F.2.2.1
  have hown := F.2.2.2.1
  have hK := F.2.2.2.2.2.2.1
  have hD := F.2.2.2.2.2.2.2
  intro ls H locs hL hP hS
  have hP : va_P D tm_cl (tm_WS ad cT w) H := hP
  have hls : c.maxLocals = ls.size := hml.trans hL.2.1.symm
  have hsum := tm_cat_sum ad r
  rcases ha with rfl | rfl | rfl
  · obtain ⟨s0, sp, d0, dp, n, n0, n1, rfl, q0, q1, ⟨c1, c2, c3, c4, c5⟩, e⟩ := ti_cpy hj
    cases e
    obtain ⟨p0, -, hat0⟩ := tm_at_WS (ad := ad) (cT := cT) (tm_arr_in q0).1
    obtain ⟨p1, hp1, hat1⟩ := tm_at_WS (ad := ad) (cT := cT) (tm_arr_in q1).1
    have e0 := hat0 w
    have e1 := hat1 w
    rw [tm_cell_a q0] at e0
    rw [tm_cell_a q1] at e1
    have hnat : nativeFrameWords "java/lang/System" "arraycopy" 5 = 7 := by decide
    refine va_copyi hx hb hls hown hlk (tm_w F tm_w_cpy_n rfl) (tm_w F tm_w_cpy_s rfl) (tm_w F tm_w_sys_i rfl) hK hP (hD.va cT w) hS p0 p1 0 0 e0 e1 rfl rfl rfl c1 c2 c3 c4 c5 (fun _ _ => rfl) h1 (by show ((r.map (tm_v ad)).map fun v => v.category).sum + _ ≤ _; rw [hsum, hnat]; omega) hd (fun H1 locs1 hP1 _ hS1 => ?_)
    have hP1 : va_P D tm_cl ((tm_WS ad cT w).set p1 (ad d0, .inl (cT 0, n1, .inl (va_cpy (w s0) (w d0) sp.toNatClampNeg dp.toNatClampNeg n.toNatClampNeg)))) H1 := hP1
    rw [tm_set_WS (w' := fun t k => if t = d0 then va_cpy (w s0) (w d0) sp.toNatClampNeg dp.toNatClampNeg n.toNatClampNeg k else w t k) hp1 (by rw [tm_cell_a q1]; simp) (fun u hne => by funext k; simp [hne])] at hP1
    exact kk _ rfl ls H1 locs1 hL hP1 hS1
  · obtain ⟨y, z, rfl, e⟩ := ti_max hj
    cases e
    exact va_mmax hx hb hls hown hlk (tm_w F tm_w_max_s rfl) (tm_w F tm_w_math_i rfl) (tm_w F tm_w_max_c rfl) h1 (by show ((r.map (tm_v ad)).map fun v => v.category).sum + 13 ≤ _; rw [hsum]; omega) hcs.1 hcs.2 hd (kk _ rfl ls H locs hL hP hS)
  · obtain ⟨y, z, rfl, e⟩ := ti_min hj
    cases e
    exact va_mmin hx hb hls hown hlk (tm_w F tm_w_min_s rfl) (tm_w F tm_w_math_i rfl) (tm_w F tm_w_min_c rfl) h1 (by show ((r.map (tm_v ad)).map fun v => v.category).sum + 13 ≤ _; rw [hsum]; omega) hcs.1 hcs.2 hd (kk _ rfl ls H locs hL hP hS)
theorem tm_b1 (F : tm_Fr p s m args c D ad cT A Ts J) {pc a : Nat} {q : ClassFile.Cond} {off : Int} {lc : Lc} {st : List AV} {w : Wd} {o : Rs ⊕ Cfg} (hd : decode (tm_cc J) pc = .ok (.ifCond q off, 3)) (ht : (pc : Int) + off = (a : Int)) (h : tm_br1 q a (pc + 3) lc st w = some o) (kk : ∀ c', o = .inr c' → tm_Go p l e R s m args below meth c cells slots Q D ad cT A J c') : tm_Go p l e R s m args below meth c cells slots Q D ad cT A J (pc, lc, st, w) := by
  obtain ⟨x, r, rfl, rfl⟩ := ti_br1 h
  have hx := F.1
  have hb := F.2.1
  intro ls H locs hL hP hS
  have k := kk _ rfl ls H locs hL hP hS
  have kt : tm_c2 q x 0 = true → W p l e R s m args below meth c H locs cells slots Q (F0 m a ls (r.map (tm_v ad))) := fun z => by rw [z] at k; exact k
  have kf : tm_c2 q x 0 = false → W p l e R s m args below meth c H locs cells slots Q (F0 m (pc + 3) ls (r.map (tm_v ad))) := fun z => by rw [z] at k; exact k
  cases q
  · exact lv_if_eq hx hb hd ht (fun z => kt (by simp [tm_c2, z])) (fun z => kf (by simp [tm_c2, z]))
  · exact lv_if_ne hx hb hd ht (fun z => kt (by simp [tm_c2, z])) (fun z => kf (by simp [tm_c2, z]))
  · exact lv_if_lt hx hb hd ht (fun z => kt (by simpa [tm_c2] using z)) (fun z => kf (by simpa [tm_c2] using z))
  · exact lv_if_ge hx hb hd ht (fun z => kt (by simpa [tm_c2] using z)) (fun z => kf (by simpa [tm_c2] using z))
  · exact lv_if_gt hx hb hd ht (fun z => kt (by simpa [tm_c2] using z)) (fun z => kf (by simpa [tm_c2] using z))
  · exact lv_if_le hx hb hd ht (fun z => kt (by simpa [tm_c2] using z)) (fun z => kf (by simpa [tm_c2] using z))
theorem tm_b2 (F : tm_Fr p s m args c D ad cT A Ts J) {pc a : Nat} {q : ClassFile.Cond} {off : Int} {lc : Lc} {st : List AV} {w : Wd} {o : Rs ⊕ Cfg} (hd : decode (tm_cc J) pc = .ok (.if_icmp q off, 3)) (ht : (pc : Int) + off = (a : Int)) (h : tm_br2 q a (pc + 3) lc st w = some o) (kk : ∀ c', o = .inr c' → tm_Go p l e R s m args below meth c cells slots Q D ad cT A J c') : tm_Go p l e R s m args below meth c cells slots Q D ad cT A J (pc, lc, st, w) := by
  obtain ⟨x, y, r, rfl, rfl⟩ := ti_br2 h
  have hx := F.1
  have hb := F.2.1
  intro ls H locs hL hP hS
  have k := kk _ rfl ls H locs hL hP hS
  have kt : tm_c2 q x y = true → W p l e R s m args below meth c H locs cells slots Q (F0 m a ls (r.map (tm_v ad))) := fun z => by rw [z] at k; exact k
  have kf : tm_c2 q x y = false → W p l e R s m args below meth c H locs cells slots Q (F0 m (pc + 3) ls (r.map (tm_v ad))) := fun z => by rw [z] at k; exact k
  cases q
  · exact lv_icmp_eq hx hb hd ht (fun z => kt (by simp [tm_c2, z])) (fun z => kf (by simp [tm_c2, z]))
  · exact lv_icmp_ne hx hb hd ht (fun z => kt (by simp [tm_c2, z])) (fun z => kf (by simp [tm_c2, z]))
  · exact lv_icmp_lt hx hb hd ht (fun z => kt (by simpa [tm_c2] using z)) (fun z => kf (by simpa [tm_c2] using z))
  · exact lv_icmp_ge hx hb hd ht (fun z => kt (by simpa [tm_c2] using z)) (fun z => kf (by simpa [tm_c2] using z))
  · exact lv_icmp_gt hx hb hd ht (fun z => kt (by simpa [tm_c2] using z)) (fun z => kf (by simpa [tm_c2] using z))
  · exact lv_icmp_le hx hb hd ht (fun z => kt (by simpa [tm_c2] using z)) (fun z => kf (by simpa [tm_c2] using z))
end
end
section
section
variable {p : Program} {l : Launch} {e : Env} {R : Room} {s : State} {m : MethodId} {args : Array Value} {below : List Frame} {meth : Method} {c : Code} {cells slots : Nat} {Q : State → Prop}
variable {D : va_G} {ad : TA → Nat} {cT : Nat → ClassId} {A : Nat → Prop} {Ts : List Jvm.Cond} {J : Nat} {C : CF} {scr : Scr}
set_option maxHeartbeats 8000000 in
theorem tm_one (F : tm_Fr p s m args c D ad cT A Ts J) (HC : tm_HC l R D ad cT C) (HS : tm_HS s ad A scr) (hcs : cells ≤ R.cells ∧ slots ≤ R.slots) {pc len a b : Nat} {ins : Instr} {lc : Lc} {st : List AV} {w : Wd} {o : Rs ⊕ Cfg} (hd : decode (tm_cc J) pc = .ok (ins, len)) (hok : tm_ok (tm_mc J) pc ins len a b = true) (h : tm_sem C scr J pc ins len a b lc st w = some o)
    (kk : ∀ c', o = .inr c' → tm_Go p l e R s m args below meth c cells slots Q D ad cT A J c') (kr : ∀ r, o = .inl r → tm_Rt p l e R s m args below meth c cells slots Q D ad cT A J r) : tm_Go p l e R s m args below meth c cells slots Q D ad cT A J (pc, lc, st, w) := by
  have hx := F.1
  have hb := F.2.1
  have hown := F.2.2.2.1
  have hK := F.2.2.2.2.2.2.1
  have bin : ∀ {f : Int32 → Int32 → Int32}, tm_bin f (pc + 1) lc st w = some o → (∀ {x y : Int32} {r : List AV} {ls : Array Slot} {H : Heap} {locs : List Loc}, W p l e R s m args below meth c H locs cells slots Q (F0 m (pc + 1) ls (.int (f x y) :: r.map (tm_v ad))) → W p l e R s m args below meth c H locs cells slots Q (F0 m pc ls (.int y :: .int x :: r.map (tm_v ad)))) → tm_Go p l e R s m args below meth c cells slots Q D ad cT A J (pc, lc, st, w) := by
    intro f hf hstep
    obtain ⟨x, y, r, rfl, rfl⟩ := ti_bin hf
    exact fun ls H locs hL hP hS => hstep (kk _ rfl ls H locs hL hP hS)
  have un : ∀ {f : Int32 → Int32}, tm_un f (pc + 1) lc st w = some o → (∀ {x : Int32} {r : List AV} {ls : Array Slot} {H : Heap} {locs : List Loc}, W p l e R s m args below meth c H locs cells slots Q (F0 m (pc + 1) ls (.int (f x) :: r.map (tm_v ad))) → W p l e R s m args below meth c H locs cells slots Q (F0 m pc ls (.int x :: r.map (tm_v ad)))) → tm_Go p l e R s m args below meth c cells slots Q D ad cT A J (pc, lc, st, w) := by
    intro f hf hstep
    obtain ⟨x, r, rfl, rfl⟩ := ti_un hf
    exact fun ls H locs hL hP hS => hstep (kk _ rfl ls H locs hL hP hS)
  cases ins with
  | iconst i =>
    have hq : Int32.ofInt i = tm_k a b ∧ len = 1 := by simpa [tm_ok] using hok
    obtain ⟨h1, rfl⟩ := hq
    have h : tm_con a b (pc + 1) lc st w = some o := h
    obtain rfl := ti_con h
    exact fun ls H locs hL hP hS => lv_iconst hx hb hd h1 (kk _ rfl ls H locs hL hP hS)
  | bipush i =>
    have hq : (Int8.ofInt i).toInt32 = tm_k a b ∧ len = 2 := by simpa [tm_ok] using hok
    obtain ⟨h1, rfl⟩ := hq
    have h : tm_con a b (pc + 2) lc st w = some o := h
    obtain rfl := ti_con h
    exact fun ls H locs hL hP hS => lv_bipush hx hb hd h1 (kk _ rfl ls H locs hL hP hS)
  | sipush i =>
    have hq : (Int16.ofInt i).toInt32 = tm_k a b ∧ len = 3 := by simpa [tm_ok] using hok
    obtain ⟨h1, rfl⟩ := hq
    have h : tm_con a b (pc + 3) lc st w = some o := h
    obtain rfl := ti_con h
    exact fun ls H locs hL hP hS => lv_sipush hx hb hd h1 (kk _ rfl ls H locs hL hP hS)
  | ldc i =>
    have hq : tm_lk (tm_mc J) i tm_kl = some (a, b) ∧ len = 2 := by simpa [tm_ok] using hok
    obtain ⟨h1, rfl⟩ := hq
    have h : tm_con a b (pc + 2) lc st w = some o := h
    obtain rfl := ti_con h
    exact fun ls H locs hL hP hS => lv_ldc hx hb hown (F.2.2.2.2.1 _ (F.2.2.2.2.2.1 _ (tm_kl_in h1))) hd (kk _ rfl ls H locs hL hP hS)
  | ldc_w i =>
    have hq : tm_lk (tm_mc J) i tm_kl = some (a, b) ∧ len = 3 := by simpa [tm_ok] using hok
    obtain ⟨h1, rfl⟩ := hq
    have h : tm_con a b (pc + 3) lc st w = some o := h
    obtain rfl := ti_con h
    exact fun ls H locs hL hP hS => lv_ldcw hx hb hown (F.2.2.2.2.1 _ (F.2.2.2.2.2.1 _ (tm_kl_in h1))) hd (kk _ rfl ls H locs hL hP hS)
  | iload i =>
    have hq : len = 2 := by simpa [tm_ok] using hok
    subst hq
    obtain ⟨x, h1, rfl⟩ := ti_ild (show tm_ild i (pc + 2) lc st w = some o from h)
    exact fun ls H locs hL hP hS => lv_iload hx hb hd (hL.get h1) (kk _ rfl ls H locs hL hP hS)
  | iload_n i =>
    have hq : len = 1 := by simpa [tm_ok] using hok
    subst hq
    obtain ⟨x, h1, rfl⟩ := ti_ild (show tm_ild i.val (pc + 1) lc st w = some o from h)
    exact fun ls H locs hL hP hS => lv_iload_n hx hb hd rfl (hL.get h1) (kk _ rfl ls H locs hL hP hS)
  | aload i =>
    have hq : len = 2 := by simpa [tm_ok] using hok
    subst hq
    obtain ⟨x, h1, rfl⟩ := ti_ald (show tm_ald i (pc + 2) lc st w = some o from h)
    exact fun ls H locs hL hP hS => lv_aload hx hb hd (hL.get h1) (kk _ rfl ls H locs hL hP hS)
  | aload_n i =>
    have hq : len = 1 := by simpa [tm_ok] using hok
    subst hq
    obtain ⟨x, h1, rfl⟩ := ti_ald (show tm_ald i.val (pc + 1) lc st w = some o from h)
    exact fun ls H locs hL hP hS => lv_aload_n hx hb hd rfl (hL.get h1) (kk _ rfl ls H locs hL hP hS)
  | istore i =>
    have hq : len = 2 := by simpa [tm_ok] using hok
    subst hq
    obtain ⟨x, r, rfl, h1, rfl⟩ := ti_ist (show tm_ist i (pc + 2) lc st w = some o from h)
    exact fun ls H locs hL hP hS => lv_istore hx hb hd hL.2 (by rw [← hL.1]; exact h1) rfl (fun ls' h' => kk _ rfl ls' H locs (hL.set (v := .inl x) h') hP hS)
  | istore_n i =>
    have hq : len = 1 := by simpa [tm_ok] using hok
    subst hq
    obtain ⟨x, r, rfl, h1, rfl⟩ := ti_ist (show tm_ist i.val (pc + 1) lc st w = some o from h)
    exact fun ls H locs hL hP hS => lv_istore_n hx hb hd rfl hL.2 (by rw [← hL.1]; exact h1) rfl (fun ls' h' => kk _ rfl ls' H locs (hL.set (v := .inl x) h') hP hS)
  | astore i =>
    have hq : len = 2 := by simpa [tm_ok] using hok
    subst hq
    obtain ⟨x, r, rfl, h1, rfl⟩ := ti_ast (show tm_ast i (pc + 2) lc st w = some o from h)
    exact fun ls H locs hL hP hS => lv_astore hx hb hd hL.2 (by rw [← hL.1]; exact h1) rfl (fun ls' h' => kk _ rfl ls' H locs (hL.set (v := .inr x) h') hP hS)
  | astore_n i =>
    have hq : len = 1 := by simpa [tm_ok] using hok
    subst hq
    obtain ⟨x, r, rfl, h1, rfl⟩ := ti_ast (show tm_ast i.val (pc + 1) lc st w = some o from h)
    exact fun ls H locs hL hP hS => lv_astore_n hx hb hd rfl hL.2 (by rw [← hL.1]; exact h1) rfl (fun ls' h' => kk _ rfl ls' H locs (hL.set (v := .inr x) h') hP hS)
  | iinc i n =>
    have hq : Int32.ofInt n = tm_k a b ∧ len = 3 := by simpa [tm_ok] using hok
    obtain ⟨h0, rfl⟩ := hq
    obtain ⟨x, h1, rfl⟩ := ti_inc (show tm_inc i a b (pc + 3) lc st w = some o from h)
    intro ls H locs hL hP hS
    obtain ⟨k, hk⟩ := List.getElem?_of_mem (tm_lv_mem (ad := ad) h1)
    exact lv_iinc hx hb hd hL.2 hk (by rw [h0]) (by rw [← hL.1]; exact (List.getElem?_eq_some_iff.mp h1).1) rfl (fun ls' h' => kk _ rfl ls' H locs (hL.set (v := .inl (x + tm_k a b)) h') hP hS)
  | iadd => (have hq : len = 1 := by simpa [tm_ok] using hok); subst hq; exact bin (f := fun x y => x + y) h (fun k => lv_iadd hx hb hd k)
  | isub => (have hq : len = 1 := by simpa [tm_ok] using hok); subst hq; exact bin (f := fun x y => x - y) h (fun k => lv_isub hx hb hd k)
  | imul => (have hq : len = 1 := by simpa [tm_ok] using hok); subst hq; exact bin (f := fun x y => x * y) h (fun k => lv_imul hx hb hd k)
  | iand => (have hq : len = 1 := by simpa [tm_ok] using hok); subst hq; exact bin (f := fun x y => x &&& y) h (fun k => lv_iand hx hb hd k)
  | ior => (have hq : len = 1 := by simpa [tm_ok] using hok); subst hq; exact bin (f := fun x y => x ||| y) h (fun k => lv_ior hx hb hd k)
  | ixor => (have hq : len = 1 := by simpa [tm_ok] using hok); subst hq; exact bin (f := fun x y => x ^^^ y) h (fun k => lv_ixor hx hb hd k)
  | ishl => (have hq : len = 1 := by simpa [tm_ok] using hok); subst hq; exact bin (f := fun x y => x <<< (y &&& 31)) h (fun k => lv_ishl hx hb hd k)
  | ishr => (have hq : len = 1 := by simpa [tm_ok] using hok); subst hq; exact bin (f := fun x y => x >>> (y &&& 31)) h (fun k => lv_ishr hx hb hd k)
  | iushr => (have hq : len = 1 := by simpa [tm_ok] using hok); subst hq; exact bin (f := fun x y => (x.toUInt32 >>> (y.toUInt32 &&& Int32.toUInt32 31)).toInt32) h (fun k => lv_iushr hx hb hd rfl k)
  | idiv =>
    have hq : len = 1 := by simpa [tm_ok] using hok
    subst hq
    obtain ⟨x, y, r, rfl, hy, rfl⟩ := ti_div (show tm_div (fun x y => x / y) (pc + 1) lc st w = some o from h)
    exact fun ls H locs hL hP hS => lv_idiv hx hb hd hy (kk _ rfl ls H locs hL hP hS)
  | irem =>
    have hq : len = 1 := by simpa [tm_ok] using hok
    subst hq
    obtain ⟨x, y, r, rfl, hy, rfl⟩ := ti_div (show tm_div (fun x y => x - x / y * y) (pc + 1) lc st w = some o from h)
    exact fun ls H locs hL hP hS => lv_irem hx hb hd hy (kk _ rfl ls H locs hL hP hS)
  | ineg => (have hq : len = 1 := by simpa [tm_ok] using hok); subst hq; exact un (f := fun x => -x) h (fun k => lv_ineg hx hb hd k)
  | i2b => (have hq : len = 1 := by simpa [tm_ok] using hok); subst hq; exact un (f := fun x => x.toInt8.toInt32) h (fun k => lv_i2b hx hb hd rfl k)
  | i2s => (have hq : len = 1 := by simpa [tm_ok] using hok); subst hq; exact un (f := fun x => x.toInt16.toInt32) h (fun k => lv_i2s hx hb hd rfl k)
  | dup =>
    have hq : len = 1 := by simpa [tm_ok] using hok
    subst hq
    obtain ⟨v, r, rfl, rfl⟩ := ti_dup (show tm_dup (pc + 1) lc st w = some o from h)
    exact fun ls H locs hL hP hS => lv_dup hx hb hd (tm_v_cat ad v) (kk _ rfl ls H locs hL hP hS)
  | dup2 =>
    have hq : len = 1 := by simpa [tm_ok] using hok
    subst hq
    obtain ⟨v, u, r, rfl, rfl⟩ := ti_dup2 (show tm_dup2 (pc + 1) lc st w = some o from h)
    exact fun ls H locs hL hP hS => lv_dup2_11 hx hb hd (tm_v_cat ad v) (tm_v_cat ad u) (kk _ rfl ls H locs hL hP hS)
  | goto off =>
    have hq : (pc : Int) + off = (a : Int) ∧ len = 3 := by simpa [tm_ok] using hok
    obtain ⟨h0, rfl⟩ := hq
    have h : tm_go a lc st w = some o := h
    cases h
    exact fun ls H locs hL hP hS => lv_goto hx hb hd h0 (kk _ rfl ls H locs hL hP hS)
  | ifCond q off =>
    have hq : (pc : Int) + off = (a : Int) ∧ len = 3 := by simpa [tm_ok] using hok
    obtain ⟨h0, rfl⟩ := hq
    exact tm_b1 F hd h0 h kk
  | if_icmp q off =>
    have hq : (pc : Int) + off = (a : Int) ∧ len = 3 := by simpa [tm_ok] using hok
    obtain ⟨h0, rfl⟩ := hq
    exact tm_b2 F hd h0 h kk
  | tableswitch d lo hi offs =>
    obtain ⟨x, r, u, rfl, rfl, ⟨h1, h2⟩ | ⟨h1, h2, off, h3, h4⟩⟩ := ti_tsw (show tm_tsw pc d lo hi offs lc st w = some o from h)
    · exact fun ls H locs hL hP hS => lv_tableOut hx hb hd h1 h2 (kk _ rfl ls H locs hL hP hS)
    · exact fun ls H locs hL hP hS => lv_tableIn hx hb hd h1 h2 h3 h4 (kk _ rfl ls H locs hL hP hS)
  | lookupswitch d ps =>
    obtain ⟨x, r, u, rfl, rfl, h1⟩ := ti_lsw (show tm_lsw pc d ps lc st w = some o from h)
    exact fun ls H locs hL hP hS => lv_lookup hx hb hd hok rfl h1 (kk _ rfl ls H locs hL hP hS)
  | getfield x =>
    have hq : ((tm_lk (tm_mc J) x tm_fl = some (a, b) ∧ a < 8) ∧ b < tm_N a) ∧ len = 3 := by simpa [tm_ok] using hok
    obtain ⟨⟨⟨h1, h2⟩, h3⟩, rfl⟩ := hq
    exact tm_gets (n := 0) F hd h1 h2 h3 h kk
  | putfield x =>
    have hq : ((tm_lk (tm_mc J) x tm_fl = some (a, b) ∧ a < 8) ∧ b < tm_N a) ∧ len = 3 := by simpa [tm_ok] using hok
    obtain ⟨⟨⟨h1, h2⟩, h3⟩, rfl⟩ := hq
    exact tm_puts (n := 0) F hd h1 h2 h3 h kk
  | iaload => (have hq : len = 1 := by simpa [tm_ok] using hok); subst hq; exact tm_lod F HS hd h kk
  | baload => (have hq : len = 1 := by simpa [tm_ok] using hok); subst hq; exact tm_lodb F hd h kk
  | iastore => (have hq : len = 1 := by simpa [tm_ok] using hok); subst hq; exact tm_sto F hd h kk
  | bastore => (have hq : len = 1 := by simpa [tm_ok] using hok); subst hq; exact tm_stob F hd h kk
  | aaload => (have hq : len = 1 := by simpa [tm_ok] using hok); subst hq; exact tm_lodq F hd h kk
  | arraylength => (have hq : len = 1 := by simpa [tm_ok] using hok); subst hq; exact tm_lens F HS hd h kk
  | invokevirtual x =>
    have hq : (((tm_lk (tm_mc J) x tm_ml = some (a, b) ∧ tm_st a = false) ∧ a < tm_NM) ∧ tm_na a = b) ∧ len = 3 := by simpa [tm_ok] using hok
    obtain ⟨⟨⟨⟨h1, h2⟩, h3⟩, h4⟩, rfl⟩ := hq
    exact tm_ivv F HC hcs hd h1 h2 h3 h4 h kk
  | invokestatic x =>
    have hq : (tm_lk (tm_mc J) x tm_ml = some (a, b) ∧ (((a = 999 ∨ a = 997) ∨ a = 996) ∨ ((tm_st a = true ∧ a < tm_NM) ∧ tm_na a = b))) ∧ len = 3 := by simpa [tm_ok] using hok
    obtain ⟨⟨h1, h2 | ⟨⟨h2, h3⟩, h4⟩⟩, rfl⟩ := hq
    · exact tm_ivj F HC hcs hd h1 (by omega) h kk
    · exact tm_ivs F HC hcs hd h1 h2 h3 h4 h kk
  | ireturn =>
    have hq : len = 1 := by simpa [tm_ok] using hok
    subst hq
    obtain ⟨x, rfl, rfl, h1⟩ := ti_rv (show tm_rv J st w = some o from h)
    exact fun ls H locs hL hP hS => (kr _ rfl pc ls H locs hP hS).1 x rfl hd h1
  | areturn =>
    have hq : len = 1 := by simpa [tm_ok] using hok
    subst hq
    obtain ⟨x, rfl, rfl, h1⟩ := ti_ra (show tm_ra J st w = some o from h)
    exact fun ls H locs hL hP hS => (kr _ rfl pc ls H locs hP hS).2.1 x rfl hd h1
  | return_ =>
    have hq : len = 1 := by simpa [tm_ok] using hok
    subst hq
    obtain ⟨rfl, rfl, h1⟩ := ti_rn (show tm_rn J st w = some o from h)
    exact fun ls H locs hL hP hS => (kr _ rfl pc ls H locs hP hS).2.2 rfl hd h1
  | _ => exact absurd (show (none : Option (Rs ⊕ Cfg)) = some o from h) (fun z => by cases z)
/-- a whole run -/
theorem tm_run_sound (F : tm_Fr p s m args c D ad cT A Ts J) (hJ : J < 192) (HC : tm_HC l R D ad cT C) (HS : tm_HS s ad A scr) (hcs : cells ≤ R.cells ∧ slots ≤ R.slots) : ∀ (n : Nat) (x : Cfg) (r : Rs), tm_ex C scr J n x = some r → tm_Rt p l e R s m args below meth c cells slots Q D ad cT A J r → tm_Go p l e R s m args below meth c cells slots Q D ad cT A J x
  | 0, x, r, h, _ => by cases h
  | n + 1, x, r, h, hr => by
    unfold tm_ex at h
    split at h
    next r' hs =>
      cases h
      obtain ⟨pc, lc, st, w⟩ := x
      unfold tm_step at hs
      split at hs
      next ins len a b hat =>
        obtain ⟨hd, hok⟩ := tm_at_ok hJ hat
        exact tm_one F HC HS hcs hd hok hs (fun c' z => by cases z) (fun r' z => by cases z; exact hr)
      next => cases hs
    next c' hs =>
      have ih := tm_run_sound F hJ HC HS hcs n c' r h hr
      obtain ⟨pc, lc, st, w⟩ := x
      unfold tm_step at hs
      split at hs
      next ins len a b hat =>
        obtain ⟨hd, hok⟩ := tm_at_ok hJ hat
        exact tm_one F HC HS hcs hd hok hs (fun c'' z => by cases z; exact ih) (fun r' z => by cases z)
      next => cases hs
    next => cases h
end
end
section
/-! every run of a method of the small machine is a contract of the method -/
theorem tm_args_at (ad : TA → Nat) : ∀ (as : List AV) (k i : Nat) (v : AV), as[i]? = some v → (k + i, tm_v ad v) ∈ lv_args k (as.map (tm_v ad))
  | [], k, i, v, h => by cases h
  | a :: as, k, 0, v, h => by
    cases h
    exact List.mem_cons_self
  | a :: as, k, i + 1, v, h => by
    have h1 : as[i]? = some v := h
    have h2 := tm_args_at ad as (k + 1) i v h1
    have e : lv_args k ((a :: as).map (tm_v ad)) = (k, tm_v ad a) :: lv_args (k + 1) (as.map (tm_v ad)) := by
      show (k, tm_v ad a) :: lv_args (if (tm_v ad a).category = 2 then k + 2 else k + 1) (as.map (tm_v ad)) = _
      rw [if_neg (by rw [tm_v_cat]; decide)]
    rw [e, show k + (i + 1) = k + 1 + i by omega]
    exact List.mem_cons_of_mem _ h2
theorem tm_sl_len (ad : TA → Nat) : ∀ as : List AV, (lg_sl (as.map (tm_v ad))).length = as.length
  | [] => rfl
  | a :: as => by
    have e : lg_sl ((a :: as).map (tm_v ad)) = .val (tm_v ad a) :: lg_sl (as.map (tm_v ad)) := by
      show (if (tm_v ad a).category = 2 then [Slot.val (tm_v ad a), .second] else [Slot.val (tm_v ad a)]) ++ lg_sl (as.map (tm_v ad)) = _
      rw [if_neg (by rw [tm_v_cat]; decide)]
      rfl
    rw [e, List.length_cons, tm_sl_len ad as, List.length_cons]
theorem tm_ent_at {J : Nat} {as : List AV} {i : Nat} {v : AV} (h : (tm_ent J as)[i]? = some (some v)) : as[i]? = some v := by
  unfold tm_ent at h
  by_cases hi : i < as.length
  · rw [List.getElem?_append_left (by rw [List.length_map]; exact hi), List.getElem?_map] at h
    cases ha : as[i]? with
    | none => rw [ha] at h; cases h
    | some u => rw [ha] at h; cases h; rfl
  · rw [List.getElem?_append_right (by rw [List.length_map]; omega)] at h
    have := List.eq_of_mem_replicate (List.mem_of_getElem? h)
    cases this
theorem tm_ent_L {ad : TA → Nat} {J : Nat} {as : List AV} (h : as.length ≤ tm_mL J) : tm_L ad (tm_mL J) ((lg_sl (as.map (tm_v ad)) ++ List.replicate (tm_mL J - (lg_sl (as.map (tm_v ad))).length) Slot.unset).toArray) (tm_ent J as) := by
  have h1 := lv_entry (as.map (tm_v ad)) (n := tm_mL J) (by rw [tm_sl_len]; exact h)
  refine ⟨?_, h1.1, h1.2.1, fun q hq => ?_⟩
  · unfold tm_ent
    rw [List.length_append, List.length_map, List.length_replicate]
    omega
  · obtain ⟨v, hv, e⟩ := tm_lv_of hq
    have h2 := tm_args_at ad as 0 q.1 v (tm_ent_at hv)
    rw [Nat.zero_add, ← e] at h2
    exact h1.2.2 q h2
theorem tm_contract (l : Launch) (D : va_G) (ad : TA → Nat) (cT : Nat → ClassId) (hinj : ∀ t ∈ tm_all, ∀ u ∈ tm_all, ad t = ad u → t = u) (f : Nat) : ∀ (d J : Nat) (as : List AV) (w : Wd) (r : Rs), J < 191 → tm_cal (d + 1) f J as w = some r → tm_Ct l D ad cT d J as w r := by
  intro d
  induction d using Nat.strongRecOn with
  | ind d ih =>
    intro J as w r hJ h
    obtain ⟨b1, b2, b3, b4, b5, b6, b7, b8⟩ := tm_mok_of hJ
    have h9 : Nat.ble 900 J = false := by
      cases hb : Nat.ble 900 J with
      | false => rfl
      | true => exact absurd (Nat.le_of_ble_eq_true hb) (by omega)
    unfold tm_cal at h
    rw [h9] at h
    dsimp only at h
    split at h
    next hl hn =>
      have hl := Nat.le_of_ble_eq_true hl
      unfold tm_Ct
      refine Met.ofW (cc := tm_cc J) (maxL := tm_mL J) (ret := tm_rt J) b7 rfl ?_
      intro p e s m args below meth c s₁ B hml hv
      obtain ⟨rfl, hP, hK⟩ := hv
      have hown : s.vm.findClass (tm_cn (tm_mc J)) = some m.cls := findClass_of_methodNamed B.named
      have F : tm_Fr p s m (as.map (tm_v ad)).toArray c D ad cT (tm_A ad) (tm_ws J) J := ⟨B.exec, B.bytes, hml, hown, atoms_spec (ws := tm_ws J) B.pre, fun w hw => List.mem_cons_of_mem _ hw, hK, fun t ht => ⟨t, ht, rfl⟩, hinj⟩
      have HC : tm_HC l (tm_room d) D ad cT (tm_cal d f) := by
        intro J' as' w' r' hc
        cases d with
        | zero => cases hc
        | succ d =>
          refine ⟨fun hJ' => ⟨d, Nat.le_refl _, ?_, ih d (Nat.lt_succ_self d) J' as' w' r' hJ' hc⟩, fun hJ' => ⟨?_, ?_, ?_⟩⟩
          · show 60 * d + 40 ≤ 60 * (d + 1)
            omega
          · unfold tm_cal at hc
            rw [show Nat.ble 900 J' = true from Nat.ble_eq.mpr hJ'] at hc
            exact hc
          · show 1 ≤ d + 1
            omega
          · show 40 ≤ 60 * (d + 1)
            omega
      have HS : tm_HS s ad (tm_A ad) none := fun L xs z => by cases z
      rw [lg_entry_eq]
      refine tm_run_sound (R := tm_room d) F (by omega) HC HS ⟨Nat.zero_le _, Nat.zero_le _⟩ f (0, tm_ent J as, [], w) r h ?_ _ _ _ (tm_ent_L hl) hP va_S.rf
      intro pc ls H locs hP' hS'
      refine ⟨fun x hx hd hk => ?_, fun t ht hd hk => ?_, fun hx hd hk => ?_⟩
      · have hq : ∀ t : State, t.heap = H → s.WarmedH t.vm → tm_Q D ad cT r (as.map (tm_v ad)).toArray s (.returned (some (.int x))) t := fun t ht hW => ⟨by rw [hx]; rfl, by rw [ht]; exact hP', hS'.F ht⟩
        have hr := B.returns
        have hlocks := B.notSynchronized
        rcases hk with hk | ⟨hk, h01⟩
        · unfold tm_rt at hr
          rw [hk] at hr
          exact W.zret (ty := .int) B.exec B.bytes hr rfl hq hS'.2.2 hd
        · unfold tm_rt at hr
          rw [hk] at hr
          exact W.zret (ty := .boolean) B.exec B.bytes hr (by rcases h01 with rfl | rfl <;> decide) hq hS'.2.2 hd
      · have hq : ∀ t' : State, t'.heap = H → s.WarmedH t'.vm → tm_Q D ad cT r (as.map (tm_v ad)).toArray s (.returned (some (.ref (ad t)))) t' := fun t' ht' hW => ⟨by rw [ht]; rfl, by rw [ht']; exact hP', hS'.F ht'⟩
        have hr := B.returns
        have hlocks := B.notSynchronized
        unfold tm_rt at hr
        rw [hk] at hr
        exact W.aret B.exec B.bytes hr (Or.inl ⟨_, rfl⟩) (Or.inr ⟨_, rfl⟩) hq hS'.2.2 hd
      · have hq : ∀ t' : State, t'.heap = H → s.WarmedH t'.vm → tm_Q D ad cT r (as.map (tm_v ad)).toArray s (.returned none) t' := fun t' ht' hW => ⟨by rw [hx]; rfl, by rw [ht']; exact hP', hS'.F ht'⟩
        have hr := B.returns
        have hlocks := B.notSynchronized
        unfold tm_rt at hr
        rw [hk] at hr
        exact W.vret B.exec B.bytes hr hq hS'.2.2 hd
    next => cases h
end
section
/-! runs of the small machine, as rules: Rn (from a place of a method on), Cl (a call), by the depth of calls -/
def tm_c2P (q : ClassFile.Cond) (x y : Int32) : Prop := match q with
  | .eq => x = y
  | .ne => ¬ x = y
  | .lt => x < y
  | .ge => y ≤ x
  | .gt => y < x
  | .le => x ≤ y
theorem tm_c2_t {q : ClassFile.Cond} {x y : Int32} : tm_c2 q x y = true ↔ tm_c2P q x y := by
  cases q <;> simp [tm_c2, tm_c2P]
theorem tm_c2_f {q : ClassFile.Cond} {x y : Int32} : tm_c2 q x y = false ↔ ¬ tm_c2P q x y := by
  rw [← tm_c2_t]
  cases tm_c2 q x y <;> simp
theorem tm_ret_mono {o o' : Option Rs} (ho : ∀ r, o = some r → o' = some r) {n : Nat} {lc : Lc} {r : List AV} {x : Rs ⊕ Cfg} (h : tm_ret o n lc r = some x) : tm_ret o' n lc r = some x := by
  obtain ⟨v, w, h1, h2⟩ := ti_ret h
  rw [ho _ h1]
  rw [h1] at h
  exact h
theorem tm_sem_mono {C C' : CF} (hC : ∀ J as w r, C J as w = some r → C' J as w = some r) {scr : Scr} {J pc : Nat} {ins : Instr} {len a b : Nat} {lc : Lc} {st : List AV} {w : Wd} {o : Rs ⊕ Cfg} (h : tm_sem C scr J pc ins len a b lc st w = some o) : tm_sem C' scr J pc ins len a b lc st w = some o := by
  cases ins with
  | invokevirtual x =>
    have h : tm_cv C a b (pc + len) lc st w = some o := h
    show tm_cv C' a b (pc + len) lc st w = some o
    unfold tm_cv at h ⊢
    split at h
    next t as r hp =>
      split at h
      next h1 h2 => exact tm_ret_mono (hC _ _ _) h
      next => cases h
    next => cases h
  | invokestatic x =>
    have h : tm_cs C a b (pc + len) lc st w = some o := h
    show tm_cs C' a b (pc + len) lc st w = some o
    unfold tm_cs at h ⊢
    split at h
    next as r hp =>
      split at h
      next h1 => exact tm_ret_mono (hC _ _ _) h
      next => cases h
    next => cases h
  | _ => exact h
theorem tm_step_mono {C C' : CF} (hC : ∀ J as w r, C J as w = some r → C' J as w = some r) {scr : Scr} {J : Nat} {x : Cfg} {o : Rs ⊕ Cfg} (h : tm_step C scr J x = some o) : tm_step C' scr J x = some o := by
  unfold tm_step at h ⊢
  split at h
  next ins len a b hat => exact tm_sem_mono hC h
  next => cases h
theorem tm_ex_mono {C C' : CF} (hC : ∀ J as w r, C J as w = some r → C' J as w = some r) {scr : Scr} {J : Nat} : ∀ (n n' : Nat) (x : Cfg) (r : Rs), n ≤ n' → tm_ex C scr J n x = some r → tm_ex C' scr J n' x = some r
  | 0, _, _, _, _, h => by cases h
  | n + 1, 0, _, _, hn, _ => absurd hn (by omega)
  | n + 1, n' + 1, x, r, hn, h => by
    unfold tm_ex at h ⊢
    split at h
    next r' hs => rw [tm_step_mono hC hs]; exact h
    next c' hs => rw [tm_step_mono hC hs]; exact tm_ex_mono hC n n' c' r (by omega) h
    next => cases h
theorem tm_cal_mono {f f' : Nat} (hf : f ≤ f') : ∀ (d J : Nat) (as : List AV) (w : Wd) (r : Rs), tm_cal d f J as w = some r → tm_cal d f' J as w = some r
  | 0, _, _, _, _, h => by cases h
  | d + 1, J, as, w, r, h => by
    unfold tm_cal at h ⊢
    split at h
    next hb => exact h
    next hb =>
      split at h
      next h1 h2 => exact tm_ex_mono (tm_cal_mono hf d) f f' _ r hf h
      next => cases h
theorem tm_cal_up {f : Nat} : ∀ (d J : Nat) (as : List AV) (w : Wd) (r : Rs), tm_cal d f J as w = some r → tm_cal (d + 1) f J as w = some r
  | 0, _, _, _, _, h => by cases h
  | d + 1, J, as, w, r, h => by
    rw [tm_cal] at h ⊢
    dsimp only at h ⊢
    split at h
    next hb => exact h
    next hb =>
      split at h
      next h1 h2 => exact tm_ex_mono (tm_cal_up d) f f _ r (Nat.le_refl _) h
      next => cases h
def Rn (scr : Scr) (d J : Nat) (x : Cfg) (r : Rs) : Prop := ∃ f, tm_ex (tm_cal d f) scr J f x = some r
def Cl (d J : Nat) (as : List AV) (w : Wd) (r : Rs) : Prop := ∃ f, tm_cal d f J as w = some r
theorem Cl.up {d d' J : Nat} {as : List AV} {w : Wd} {r : Rs} (h : Cl d J as w r) (hd : d ≤ d') : Cl d' J as w r := by
  obtain ⟨f, h⟩ := h
  refine ⟨f, ?_⟩
  obtain ⟨k, rfl⟩ := Nat.le.dest hd
  clear hd
  induction k with
  | zero => exact h
  | succ k ih => exact tm_cal_up _ _ _ _ _ ih
theorem Rn.step {scr : Scr} {d J : Nat} {x y : Cfg} {r : Rs} (h : ∀ C, tm_step C scr J x = some (.inr y)) (k : Rn scr d J y r) : Rn scr d J x r := by
  obtain ⟨f, k⟩ := k
  refine ⟨f + 1, ?_⟩
  unfold tm_ex
  rw [h]
  exact tm_ex_mono (tm_cal_mono (Nat.le_succ f) d) f f _ r (Nat.le_refl _) k
theorem Rn.done {scr : Scr} {d J : Nat} {x : Cfg} {r : Rs} (h : ∀ C, tm_step C scr J x = some (.inl r)) : Rn scr d J x r := by
  refine ⟨1, ?_⟩
  unfold tm_ex
  rw [h]
theorem tm_none_le (C : CF) : ∀ J as w r, (fun _ _ _ => none : CF) J as w = some r → C J as w = some r := fun _ _ _ _ h => by cases h
def tm_plain (ins : Instr) : Bool := match ins with
  | .ifCond _ _ => false
  | .if_icmp _ _ => false
  | .tableswitch _ _ _ _ => false
  | .lookupswitch _ _ => false
  | .iaload => false
  | .baload => false
  | .iastore => false
  | .bastore => false
  | .aaload => false
  | .invokevirtual _ => false
  | .invokestatic _ => false
  | .ireturn => false
  | .areturn => false
  | .return_ => false
  | _ => true
/-- instructions one after the other, as long as they go straight on -/
def tm_adv (scr : Scr) (J : Nat) : Nat → Nat → Lc → List AV → Wd → Cfg
  | 0, pc, lc, st, w => (pc, lc, st, w)
  | n + 1, pc, lc, st, w => match tm_at J pc with
    | some (ins, len, a, b) => match tm_plain ins with
      | true => match tm_sem (fun _ _ _ => none) scr J pc ins len a b lc st w with
        | some (.inr (pc', lc', st', w')) => tm_adv scr J n pc' lc' st' w'
        | _ => (pc, lc, st, w)
      | false => (pc, lc, st, w)
    | none => (pc, lc, st, w)
theorem Rn.adv {scr : Scr} {d J : Nat} {r : Rs} : ∀ (n pc : Nat) (lc : Lc) (st : List AV) (w : Wd), Rn scr d J (tm_adv scr J n pc lc st w) r → Rn scr d J (pc, lc, st, w) r
  | 0, _, _, _, _, h => h
  | n + 1, pc, lc, st, w, h => by
    unfold tm_adv at h
    split at h
    next ins len a b hat =>
      split at h
      next =>
        split at h
        next pc' lc' st' w' hs =>
          refine Rn.step (fun C => ?_) (Rn.adv n pc' lc' st' w' h)
          unfold tm_step
          dsimp only
          rw [hat]
          exact tm_sem_mono (tm_none_le C) hs
        next => exact h
      next => exact h
    next => exact h
section
variable {scr : Scr} {d J : Nat} {r : Rs} {pc pc' ln a b : Nat} {lc lc' : Lc} {st st' : List AV} {w w' : Wd}
theorem Rn.at (n : Nat) {x : Cfg} (h : tm_adv scr J n pc lc st w = x) (k : Rn scr d J x r) : Rn scr d J (pc, lc, st, w) r := Rn.adv n pc lc st w (by rw [h]; exact k)
theorem Rn.sem {ins : Instr} {y : Cfg} (hi : tm_at J pc' = some (ins, ln, a, b)) (hs : tm_sem (fun _ _ _ => none) scr J pc' ins ln a b lc' st' w' = some (.inr y)) (k : Rn scr d J y r) : Rn scr d J (pc', lc', st', w') r := by
  refine Rn.step (fun C => ?_) k
  unfold tm_step
  dsimp only
  rw [hi]
  exact tm_sem_mono (tm_none_le C) hs
theorem Rn.if1 (n : Nat) {x : Int32} {q : ClassFile.Cond} {off : Int} (h : tm_adv scr J n pc lc st w = (pc', lc', .inl x :: st', w')) (hi : tm_at J pc' = some (.ifCond q off, ln, a, b)) (kt : tm_c2P q x 0 → Rn scr d J (a, lc', st', w') r) (kf : ¬ tm_c2P q x 0 → Rn scr d J (pc' + ln, lc', st', w') r) : Rn scr d J (pc, lc, st, w) r := by
  refine Rn.at n h (Rn.sem hi (y := (bif tm_c2 q x 0 then a else pc' + ln, lc', st', w')) rfl ?_)
  cases hc : tm_c2 q x 0 with
  | true => exact kt (tm_c2_t.mp hc)
  | false => exact kf (tm_c2_f.mp hc)
theorem Rn.if2 (n : Nat) {x y : Int32} {q : ClassFile.Cond} {off : Int} (h : tm_adv scr J n pc lc st w = (pc', lc', .inl y :: .inl x :: st', w')) (hi : tm_at J pc' = some (.if_icmp q off, ln, a, b)) (kt : tm_c2P q x y → Rn scr d J (a, lc', st', w') r) (kf : ¬ tm_c2P q x y → Rn scr d J (pc' + ln, lc', st', w') r) : Rn scr d J (pc, lc, st, w) r := by
  refine Rn.at n h (Rn.sem hi (y := (bif tm_c2 q x y then a else pc' + ln, lc', st', w')) rfl ?_)
  cases hc : tm_c2 q x y with
  | true => exact kt (tm_c2_t.mp hc)
  | false => exact kf (tm_c2_f.mp hc)
theorem Rn.if1t (n : Nat) {x : Int32} {q : ClassFile.Cond} {off : Int} (h : tm_adv scr J n pc lc st w = (pc', lc', .inl x :: st', w')) (hi : tm_at J pc' = some (.ifCond q off, ln, a, b)) (hc : tm_c2P q x 0) (kt : Rn scr d J (a, lc', st', w') r) : Rn scr d J (pc, lc, st, w) r := Rn.if1 n h hi (fun _ => kt) (fun z => absurd hc z)
theorem Rn.if1f (n : Nat) {x : Int32} {q : ClassFile.Cond} {off : Int} (h : tm_adv scr J n pc lc st w = (pc', lc', .inl x :: st', w')) (hi : tm_at J pc' = some (.ifCond q off, ln, a, b)) (hc : ¬ tm_c2P q x 0) (kf : Rn scr d J (pc' + ln, lc', st', w') r) : Rn scr d J (pc, lc, st, w) r := Rn.if1 n h hi (fun z => absurd z hc) (fun _ => kf)
theorem Rn.if2t (n : Nat) {x y : Int32} {q : ClassFile.Cond} {off : Int} (h : tm_adv scr J n pc lc st w = (pc', lc', .inl y :: .inl x :: st', w')) (hi : tm_at J pc' = some (.if_icmp q off, ln, a, b)) (hc : tm_c2P q x y) (kt : Rn scr d J (a, lc', st', w') r) : Rn scr d J (pc, lc, st, w) r := Rn.if2 n h hi (fun _ => kt) (fun z => absurd hc z)
theorem Rn.if2f (n : Nat) {x y : Int32} {q : ClassFile.Cond} {off : Int} (h : tm_adv scr J n pc lc st w = (pc', lc', .inl y :: .inl x :: st', w')) (hi : tm_at J pc' = some (.if_icmp q off, ln, a, b)) (hc : ¬ tm_c2P q x y) (kf : Rn scr d J (pc' + ln, lc', st', w') r) : Rn scr d J (pc, lc, st, w) r := Rn.if2 n h hi (fun z => absurd z hc) (fun _ => kf)
theorem Rn.tsw (n : Nat) {x : Int32} {dd lo hi' : Int} {offs : Array Int} {t : Nat} (h : tm_adv scr J n pc lc st w = (pc', lc', .inl x :: st', w')) (hi : tm_at J pc' = some (.tableswitch dd lo hi' offs, ln, a, b)) (ht : tm_tsw pc' dd lo hi' offs lc' (.inl x :: st') w' = some (.inr (t, lc', st', w'))) (k : Rn scr d J (t, lc', st', w') r) : Rn scr d J (pc, lc, st, w) r :=
  Rn.at n h (Rn.sem hi ht k)
theorem Rn.lsw (n : Nat) {x : Int32} {dd : Int} {ps : Array (Int × Int)} {t : Nat} (h : tm_adv scr J n pc lc st w = (pc', lc', .inl x :: st', w')) (hi : tm_at J pc' = some (.lookupswitch dd ps, ln, a, b)) (ht : tm_lsw pc' dd ps lc' (.inl x :: st') w' = some (.inr (t, lc', st', w'))) (k : Rn scr d J (t, lc', st', w') r) : Rn scr d J (pc, lc, st, w) r :=
  Rn.at n h (Rn.sem hi ht k)
theorem tm_arr_le {t : TA} {y n : Nat} (h : tm_arr t = some (y, n)) : n ≤ 320 := by
  rcases t with ⟨c, p⟩ | ⟨r, p⟩ | j
  all_goals
    unfold tm_arr at h
    dsimp only at h
    split at h
    all_goals first | (cases h; done) | (cases h; omega)
theorem tm_in_nI {j n : Nat} (h : j < n) (hn : n ≤ 320) : tm_in (nI j) n = true := by
  have h1 := nI_in (c := j) (N := n) h (by omega)
  unfold tm_in
  rw [nI_clamp (by omega)]
  simp only [Bool.and_eq_true, Bool.not_eq_true', decide_eq_false_iff_not, decide_eq_true_eq]
  exact ⟨fun q => h1 (Or.inl q), h⟩
theorem Rn.al (n : Nat) {i : Int32} {t : TA} {j m : Nat} (h : tm_adv scr J n pc lc st w = (pc', lc', .inl i :: .inr t :: st', w')) (hi : tm_at J pc' = some (.iaload, ln, a, b)) (ha : tm_arr t = some (0, m)) (hj : i = nI j) (hlt : j < m) (k : Rn scr d J (pc' + ln, lc', .inl (w' t j) :: st', w') r) : Rn scr d J (pc, lc, st, w) r := by
  subst hj
  have hm := tm_arr_le ha
  refine Rn.at n h (Rn.sem hi ?_ k)
  show tm_al 0 scr (pc' + ln) lc' (.inl (nI j) :: .inr t :: st') w' = _
  unfold tm_al
  dsimp only
  rw [ha]
  dsimp only
  rw [tm_in_nI hlt hm, nI_clamp (by omega)]
  rfl
theorem Rn.bal (n : Nat) {i : Int32} {t : TA} {j m y : Nat} (h : tm_adv scr J n pc lc st w = (pc', lc', .inl i :: .inr t :: st', w')) (hi : tm_at J pc' = some (.baload, ln, a, b)) (ha : tm_arr t = some (y + 1, m)) (hj : i = nI j) (hlt : j < m) (k : Rn scr d J (pc' + ln, lc', .inl (w' t j) :: st', w') r) : Rn scr d J (pc, lc, st, w) r := by
  subst hj
  have hm := tm_arr_le ha
  refine Rn.at n h (Rn.sem hi ?_ k)
  show tm_bal (pc' + ln) lc' (.inl (nI j) :: .inr t :: st') w' = _
  unfold tm_bal
  dsimp only
  rw [ha]
  dsimp only
  rw [tm_in_nI hlt hm, nI_clamp (by omega)]
  rfl
theorem Rn.as (n : Nat) {i x : Int32} {t : TA} {j m : Nat} (h : tm_adv scr J n pc lc st w = (pc', lc', .inl x :: .inl i :: .inr t :: st', w')) (hi : tm_at J pc' = some (.iastore, ln, a, b)) (ha : tm_arr t = some (0, m)) (hj : i = nI j) (hlt : j < m) (k : Rn scr d J (pc' + ln, lc', st', wset w' t j x) r) : Rn scr d J (pc, lc, st, w) r := by
  subst hj
  have hm := tm_arr_le ha
  refine Rn.at n h (Rn.sem hi ?_ k)
  show tm_as (pc' + ln) lc' (.inl x :: .inl (nI j) :: .inr t :: st') w' = _
  unfold tm_as
  dsimp only
  rw [ha]
  dsimp only
  rw [tm_in_nI hlt hm, nI_clamp (by omega)]
  rfl
theorem Rn.bas (n : Nat) {i x : Int32} {t : TA} {j m y : Nat} (h : tm_adv scr J n pc lc st w = (pc', lc', .inl x :: .inl i :: .inr t :: st', w')) (hi : tm_at J pc' = some (.bastore, ln, a, b)) (ha : tm_arr t = some (y + 1, m)) (hj : i = nI j) (hlt : j < m) (k : Rn scr d J (pc' + ln, lc', st', wset w' t j (vp_nar (match y + 1 with | 1 => .boolean | _ => .byte) x)) r) : Rn scr d J (pc, lc, st, w) r := by
  subst hj
  have hm := tm_arr_le ha
  refine Rn.at n h (Rn.sem hi ?_ k)
  show tm_bas (pc' + ln) lc' (.inl x :: .inl (nI j) :: .inr t :: st') w' = _
  unfold tm_bas
  dsimp only
  rw [ha]
  dsimp only
  rw [tm_in_nI hlt hm, nI_clamp (by omega)]
  rfl
theorem Rn.row (n : Nat) {i : Int32} {j : Nat} (h : tm_adv scr J n pc lc st w = (pc', lc', .inl i :: .inr (sg 1) :: st', w')) (hi : tm_at J pc' = some (.aaload, ln, a, b)) (hj : i = nI j) (hlt : j < 8) (k : Rn scr d J (pc' + ln, lc', .inr (rw_ (Fin.ofNat 8 j) 0) :: st', w') r) : Rn scr d J (pc, lc, st, w) r := by
  subst hj
  refine Rn.at n h (Rn.sem hi ?_ k)
  show (match tm_in (nI j) 8 with | true => tm_go (pc' + ln) lc' (.inr (rw_ (Fin.ofNat 8 (nI j).toNatClampNeg) 0) :: st') w' | false => none) = _
  rw [tm_in_nI hlt (by omega), nI_clamp (by omega)]
  rfl
theorem Rn.img (n : Nat) {i : Int32} {j : Nat} (h : tm_adv scr J n pc lc st w = (pc', lc', .inl i :: .inr (sg 4) :: st', w')) (hi : tm_at J pc' = some (.aaload, ln, a, b)) (hj : i = nI j) (hlt : j < 2) (k : Rn scr d J (pc' + ln, lc', .inr (cit (Fin.ofNat 6 (2 + j)) 0) :: st', w') r) : Rn scr d J (pc, lc, st, w) r := by
  subst hj
  refine Rn.at n h (Rn.sem hi ?_ k)
  show (match tm_in (nI j) 2 with | true => tm_go (pc' + ln) lc' (.inr (cit (Fin.ofNat 6 (2 + (nI j).toNatClampNeg)) 0) :: st') w' | false => none) = _
  rw [tm_in_nI hlt (by omega), nI_clamp (by omega)]
  rfl
theorem Rn.cv (n : Nat) {x J' d' : Nat} {t : TA} {as rest : List AV} {v : Option AV} {w'' : Wd} (h : tm_adv scr J n pc lc st w = (pc', lc', st', w')) (hi : tm_at J pc' = some (.invokevirtual x, ln, J', b)) (hp : tm_pop (b + 1) [] st' = some (.inr t :: as, rest)) (ho : Nat.beq (tm_obj t) (tm_mc J') = true) (hl : Nat.ble rest.length 8 = true) (hc : Cl d' J' (.inr t :: as) w' (v, w'')) (hd : d' ≤ d) (k : Rn scr d J (pc' + ln, lc', v.toList ++ rest, w'') r) : Rn scr d J (pc, lc, st, w) r := by
  refine Rn.at n h ?_
  obtain ⟨f1, hc⟩ := hc.up hd
  obtain ⟨f2, k⟩ := k
  refine ⟨f1 + f2 + 1, ?_⟩
  have e : tm_step (tm_cal d (f1 + f2 + 1)) scr J (pc', lc', st', w') = some (.inr (pc' + ln, lc', v.toList ++ rest, w'')) := by
    unfold tm_step
    dsimp only
    rw [hi]
    show tm_cv (tm_cal d (f1 + f2 + 1)) J' b (pc' + ln) lc' st' w' = _
    unfold tm_cv
    rw [hp]
    dsimp only
    rw [ho, hl, tm_cal_mono (by omega) d _ _ _ _ hc]
    cases v <;> rfl
  unfold tm_ex
  rw [e]
  exact tm_ex_mono (tm_cal_mono (by omega) d) f2 (f1 + f2) _ r (by omega) k
theorem Rn.cs (n : Nat) {x J' d' : Nat} {as rest : List AV} {v : Option AV} {w'' : Wd} (h : tm_adv scr J n pc lc st w = (pc', lc', st', w')) (hi : tm_at J pc' = some (.invokestatic x, ln, J', b)) (hp : tm_pop b [] st' = some (as, rest)) (hl : Nat.ble rest.length 8 = true) (hc : Cl d' J' as w' (v, w'')) (hd : d' ≤ d) (k : Rn scr d J (pc' + ln, lc', v.toList ++ rest, w'') r) : Rn scr d J (pc, lc, st, w) r := by
  refine Rn.at n h ?_
  obtain ⟨f1, hc⟩ := hc.up hd
  obtain ⟨f2, k⟩ := k
  refine ⟨f1 + f2 + 1, ?_⟩
  have e : tm_step (tm_cal d (f1 + f2 + 1)) scr J (pc', lc', st', w') = some (.inr (pc' + ln, lc', v.toList ++ rest, w'')) := by
    unfold tm_step
    dsimp only
    rw [hi]
    show tm_cs (tm_cal d (f1 + f2 + 1)) J' b (pc' + ln) lc' st' w' = _
    unfold tm_cs
    rw [hp]
    dsimp only
    rw [hl, tm_cal_mono (by omega) d _ _ _ _ hc]
    cases v <;> rfl
  unfold tm_ex
  rw [e]
  exact tm_ex_mono (tm_cal_mono (by omega) d) f2 (f1 + f2) _ r (by omega) k
theorem Rn.ir (n : Nat) {x : Int32} (h : tm_adv scr J n pc lc st w = (pc', lc', [.inl x], w')) (hi : tm_at J pc' = some (.ireturn, ln, a, b)) (hk : tm_rk J = 1) (hr : (some (.inl x), w') = r) : Rn scr d J (pc, lc, st, w) r := by
  subst hr
  refine Rn.at n h (Rn.done (fun C => ?_))
  unfold tm_step
  try dsimp only
  rw [hi]
  show tm_rv J [.inl x] w' = _
  unfold tm_rv
  try dsimp only
  rw [hk]
  rfl
theorem Rn.zr (n : Nat) {x : Int32} (h : tm_adv scr J n pc lc st w = (pc', lc', [.inl x], w')) (hi : tm_at J pc' = some (.ireturn, ln, a, b)) (hk : tm_rk J = 2) (hx : x = 0 ∨ x = 1) (hr : (some (.inl x), w') = r) : Rn scr d J (pc, lc, st, w) r := by
  subst hr
  refine Rn.at n h (Rn.done (fun C => ?_))
  unfold tm_step
  try dsimp only
  rw [hi]
  show tm_rv J [.inl x] w' = _
  unfold tm_rv
  try dsimp only
  rw [hk]
  try dsimp only
  have e : (decide (x = 0) || decide (x = 1)) = true := by simpa using hx
  rw [e]
  rfl
theorem Rn.ar (n : Nat) {t : TA} (h : tm_adv scr J n pc lc st w = (pc', lc', [.inr t], w')) (hi : tm_at J pc' = some (.areturn, ln, a, b)) (hk : tm_rk J = 3) (hr : (some (.inr t), w') = r) : Rn scr d J (pc, lc, st, w) r := by
  subst hr
  refine Rn.at n h (Rn.done (fun C => ?_))
  unfold tm_step
  try dsimp only
  rw [hi]
  show tm_ra J [.inr t] w' = _
  unfold tm_ra
  try dsimp only
  rw [hk]
  rfl
theorem Rn.vr (n : Nat) (h : tm_adv scr J n pc lc st w = (pc', lc', [], w')) (hi : tm_at J pc' = some (.return_, ln, a, b)) (hk : tm_rk J = 0) (hr : (none, w') = r) : Rn scr d J (pc, lc, st, w) r := by
  subst hr
  refine Rn.at n h (Rn.done (fun C => ?_))
  unfold tm_step
  try dsimp only
  rw [hi]
  show tm_rn J [] w' = _
  unfold tm_rn
  try dsimp only
  rw [hk]
  rfl
end
/-- a method, from its entry -/
theorem Cl.of {d J : Nat} {as : List AV} {w : Wd} {r : Rs} (h9 : Nat.ble 900 J = false) (h1 : Nat.ble as.length (tm_mL J) = true) (h2 : Nat.beq as.length (tm_na J + (bif tm_st J then 0 else 1)) = true) {lc : Lc} (hl : tm_ent J as = lc) (h : Rn none d J (0, lc, [], w) r) : Cl (d + 1) J as w r := by
  obtain ⟨f, h⟩ := h
  refine ⟨f, ?_⟩
  unfold tm_cal
  rw [h9]
  try dsimp only
  rw [h1, h2]
  try dsimp only
  rw [hl]
  exact h
theorem Cl.jdk {J : Nat} {as : List AV} {w : Wd} {r : Rs} (h9 : Nat.ble 900 J = true) (h : tm_jdk J as w = some r) : Cl 1 J as w r := by
  refine ⟨0, ?_⟩
  unfold tm_cal
  rw [h9]
  exact h
end
section
/-! numbers: nI of naturals through the int instructions -/
theorem nJ_sl : ∀ n, n < 32 → ((nI n &&& 31).toBitVec.smod 32).toNat = n := by decide +kernel
theorem nJ_shr {a g : Nat} (ha : a < 2 ^ 31) (hg : g < 32) : nI a >>> (nI g &&& 31) = nI (a / 2 ^ g) := pk_shrN ha _ g (nJ_sl g hg)
theorem nJ_shl {a g : Nat} (hg : g < 32) (h : a * 2 ^ g < 2 ^ 32) : nI a <<< (nI g &&& 31) = nI (a * 2 ^ g) := pk_shlN _ g (nJ_sl g hg) h
theorem nJ_1shl {g : Nat} (hg : g < 32) : nI 1 <<< (nI g &&& 31) = nI (2 ^ g) := by
  rw [nJ_shl hg (by rw [Nat.one_mul]; exact Nat.pow_lt_pow_right (by decide) hg), Nat.one_mul]
theorem nJ_and (a b : Nat) : nI a &&& nI b = nI (a &&& b) := by
  apply Int32.toBitVec_inj.mp
  apply BitVec.eq_of_getLsbD_eq
  intro i hi
  rw [Int32.toBitVec_and, BitVec.getLsbD_and]
  show ((BitVec.ofNat 32 a).getLsbD i && (BitVec.ofNat 32 b).getLsbD i) = (BitVec.ofNat 32 (a &&& b)).getLsbD i
  rw [BitVec.getLsbD_ofNat, BitVec.getLsbD_ofNat, BitVec.getLsbD_ofNat, Nat.testBit_and]
  simp [hi]
theorem nJ_or (a b : Nat) : nI a ||| nI b = nI (a ||| b) := by
  apply Int32.toBitVec_inj.mp
  apply BitVec.eq_of_getLsbD_eq
  intro i hi
  rw [Int32.toBitVec_or, BitVec.getLsbD_or]
  show ((BitVec.ofNat 32 a).getLsbD i || (BitVec.ofNat 32 b).getLsbD i) = (BitVec.ofNat 32 (a ||| b)).getLsbD i
  rw [BitVec.getLsbD_ofNat, BitVec.getLsbD_ofNat, BitVec.getLsbD_ofNat, Nat.testBit_or]
  simp [hi]
theorem nJ_xor (a b : Nat) : nI a ^^^ nI b = nI (a ^^^ b) := by
  apply Int32.toBitVec_inj.mp
  apply BitVec.eq_of_getLsbD_eq
  intro i hi
  rw [Int32.toBitVec_xor, BitVec.getLsbD_xor]
  show ((BitVec.ofNat 32 a).getLsbD i ^^ (BitVec.ofNat 32 b).getLsbD i) = (BitVec.ofNat 32 (a ^^^ b)).getLsbD i
  rw [BitVec.getLsbD_ofNat, BitVec.getLsbD_ofNat, BitVec.getLsbD_ofNat, Nat.testBit_xor]
  simp [hi]
/-- a truth value, as an int -/
def bI (b : Bool) : Int32 := nI (bif b then 1 else 0)
theorem bI01 (b : Bool) : bI b = 0 ∨ bI b = 1 := by cases b <;> decide
theorem nJ_mod2 (a : Nat) : nI a &&& nI 1 = nI (a % 2) := by rw [nJ_and, Nat.and_one_is_mod]
theorem nJ_bit {a g : Nat} (ha : a < 2 ^ 31) (hg : g < 32) : nI a >>> (nI g &&& 31) &&& nI 1 = bI (a.testBit g) := by
  rw [nJ_shr ha hg, nJ_mod2]
  unfold bI Nat.testBit
  rw [Nat.shiftRight_eq_div_pow, Nat.one_and_eq_mod_two]
  rcases Nat.mod_two_eq_zero_or_one (a / 2 ^ g) with h | h <;> rw [h] <;> rfl
theorem bI_t : bI true = nI 1 := rfl
theorem bI_f : bI false = nI 0 := rfl
theorem bI_eq1 {b : Bool} : bI b = nI 1 ↔ b = true := by cases b <;> decide
theorem bI_eq0 {b : Bool} : bI b = 0 ↔ b = false := by cases b <;> decide
/-- comparing a number from the machine with its natural -/
theorem nJ_eq0 {a : Nat} (h : a < 2 ^ 31) : nI a = 0 ↔ a = 0 := by
  rw [show (0 : Int32) = nI 0 from rfl, nI_eq h (by decide)]
theorem nJ_le {a b : Nat} (ha : a < 2 ^ 31) (hb : b < 2 ^ 31) : nI a ≤ nI b ↔ a ≤ b := nI_leI ha hb
theorem nJ_lt {a b : Nat} (ha : a < 2 ^ 31) (hb : b < 2 ^ 31) : nI a < nI b ↔ a < b := nI_ltI ha hb
theorem nJ_and_lt {a b k : Nat} (h : b < k) : a &&& b < k := Nat.lt_of_le_of_lt Nat.and_le_right h
end
section
/-! A CITY AS NUMBERS: c is the plan, laid as the reference lays it (0 plots, 3 gates, 4 people; gate g at 8 + 2 g; person p at 24 + 5 p: sort, home, errand, wish, weight); o the open gates, sp the vetoes spent, wf the wishes, nr near, ti tie -/
def eN (c : Nat → Nat) (g : Nat) : Nat := 2 ^ c (8 + 2 * g) ||| 2 ^ c (9 + 2 * g)
def tch (c : Nat → Nat) (s g : Nat) : Bool := !decide (s &&& eN c g = 0)
def psN (c : Nat → Nat) (o : Nat) : Nat → Nat → Nat → Nat
  | 0, _, s => s
  | n + 1, g, s => psN c o n (g + 1) (bif o.testBit g && tch c s g then s ||| eN c g else s)
def rcN (c : Nat → Nat) (o : Nat) : Nat → Nat → Nat
  | 0, s => s
  | n + 1, s => rcN c o n (psN c o (c 3) 0 s)
def rc (c : Nat → Nat) (o q : Nat) : Nat := rcN c o 6 (2 ^ q)
def lvN (c : Nat → Nat) (o s : Nat) : Nat → Nat → Nat → Nat
  | 0, _, m => m
  | n + 1, g, m => lvN c o s n (g + 1) (bif o.testBit g && tch c s g then m ||| eN c g else m)
def lv (c : Nat → Nat) (o s : Nat) : Nat := lvN c o s (c 3) 0 s
def lvs (c : Nat → Nat) (o s : Nat) : Nat → Nat
  | 0 => s
  | k + 1 => lv c o (lvs c o s k)
def stT (c : Nat → Nat) (o s g : Nat) : Nat → Nat
  | 0 => 100
  | k + 1 => bif tch c (lvs c o s k) g then min (stT c o s g k) k else stT c o s g k
def so (c : Nat → Nat) (p : Nat) : Nat := c (24 + 5 * p)
def ho (c : Nat → Nat) (p : Nat) : Nat := c (25 + 5 * p)
def er (c : Nat → Nat) (p : Nat) : Nat := c (26 + 5 * p)
def we (c : Nat → Nat) (p : Nat) : Nat := c (28 + 5 * p)
def st (c : Nat → Nat) (o p g : Nat) : Nat := stT c o (2 ^ ho c p) g 6
def atH (c : Nat → Nat) (p g : Nat) : Bool := decide (c (8 + 2 * g) = ho c p) || decide (c (9 + 2 * g) = ho c p)
def wdN (c : Nat → Nat) (o p : Nat) : Nat → Nat → Bool
  | 0, _ => true
  | n + 1, g => bif atH c p g && o.testBit g then false else wdN c o p n (g + 1)
def wd (c : Nat → Nat) (o p : Nat) : Bool := wdN c o p (c 3) 0
def vc (c : Nat → Nat) (nr o p g : Nat) : Nat := if so c p = 5 then 0 else if st c o p g ≤ nr then we c p - st c o p g else bif decide (so c p = 2) && wd c o p then 1 else 0
def fo (c : Nat → Nat) (o : Nat) (wf : Nat → Nat) (p g : Nat) : Bool := if so c p = 3 then o.testBit g else (wf p).testBit g
def suN (c : Nat → Nat) (nr o : Nat) (wf : Nat → Nat) (g : Nat) (b : Bool) : Nat → Nat → Nat → Nat
  | 0, _, a => a
  | n + 1, p, a => suN c nr o wf g b n (p + 1) (if fo c o wf p g = b then a + vc c nr o p g else a)
def su (c : Nat → Nat) (nr o : Nat) (wf : Nat → Nat) (g : Nat) (b : Bool) : Nat := suN c nr o wf g b (c 4) 0 0
def ob (ti o g a b : Nat) : Bool := if a = b then decide (ti = 1) || (decide (ti = 2) && o.testBit g) else decide (b < a)
def vto (c : Nat → Nat) (nr o : Nat) (wf : Nat → Nat) (g sp p : Nat) : Bool := decide (so c p = 4) && !sp.testBit p && decide (st c o p g ≤ nr) && !(wf p).testBit g
def vtN (c : Nat → Nat) (nr o : Nat) (wf : Nat → Nat) (g sp : Nat) : Nat → Nat → Option Nat
  | 0, _ => none
  | n + 1, p => bif vto c nr o wf g sp p then some p else vtN c nr o wf g sp n (p + 1)
def daS (c : Nat → Nat) (nr ti : Nat) (wf : Nat → Nat) (o g th sp : Nat) : Nat × Nat := bif ob ti o g (su c nr o wf g true) (su c nr o wf g false) then (match vtN c nr o wf g sp (c 4) 0 with
  | some p => (th, sp ||| 2 ^ p)
  | none => (th ||| 2 ^ g, sp)) else (th, sp)
def daN (c : Nat → Nat) (nr ti : Nat) (wf : Nat → Nat) (o : Nat) : Nat → Nat → Nat × Nat → Nat × Nat
  | 0, _, q => q
  | n + 1, g, q => daN c nr ti wf o n (g + 1) (daS c nr ti wf o g q.1 q.2)
/-- a dawn: the open gates, the vetoes spent -/
def da (c : Nat → Nat) (nr ti : Nat) (wf : Nat → Nat) (q : Nat × Nat) : Nat × Nat := daN c nr ti wf q.1 (c 3) 0 (0, q.2)
def gl (c : Nat → Nat) (o p : Nat) : Bool := (rc c o (ho c p)).testBit (er c p)
def bsN (f : Nat → Bool) : Nat → Nat → Nat → Nat
  | 0, _, s => s
  | n + 1, p, s => bsN f n (p + 1) (s ||| bif f p then 2 ^ p else 0)
/-- a set of people, as bits -/
def bs (f : Nat → Bool) (n : Nat) : Nat := bsN f n 0 0
def PlOk (c : Nat → Nat) : Prop := c 0 ≤ 6 ∧ c 3 ≤ 8 ∧ c 4 ≤ 5 ∧ (∀ g, g < c 3 → c (8 + 2 * g) < c 0 ∧ c (9 + 2 * g) < c 0) ∧ ∀ p, p < c 4 → so c p ≤ 5 ∧ ho c p < c 0 ∧ er c p < c 0 ∧ we c p ≤ 20
-- what is reached stands still before there are more passes than plots
def pc6 (s : Nat) : Nat := (s.testBit 0).toNat + (s.testBit 1).toNat + (s.testBit 2).toNat + (s.testBit 3).toNat + (s.testBit 4).toNat + (s.testBit 5).toNat
theorem pc6_lt : ∀ a, a < 64 → ∀ b, b < 64 → a ||| b = b → a ≠ b → pc6 a < pc6 b := by decide +kernel
theorem pc6_le : ∀ n, n < 7 → ∀ a, a < 2 ^ n → pc6 a ≤ n := by decide +kernel
theorem pc6_1 : ∀ n, n < 6 → pc6 (2 ^ n) = 1 := by decide +kernel
theorem eN_lt' {c : Nat → Nat} (h : PlOk c) {g : Nat} (hg : g < c 3) : eN c g < 2 ^ c 0 := Nat.or_lt_two_pow (Nat.pow_lt_pow_right (by decide) (h.2.2.2.1 g hg).1) (Nat.pow_lt_pow_right (by decide) (h.2.2.2.1 g hg).2)
theorem p2_le {n : Nat} (h : n ≤ 6) : 2 ^ n ≤ 64 := Nat.pow_le_pow_right (n := 2) (by decide) h
theorem eN_lt {c : Nat → Nat} (h : PlOk c) {g : Nat} (hg : g < c 3) : eN c g < 64 := Nat.lt_of_lt_of_le (eN_lt' h hg) (p2_le h.1)
theorem or_sub (a b : Nat) : a ||| (a ||| b) = a ||| b := by rw [← Nat.or_assoc, Nat.or_self]
theorem sub_tr {a b d : Nat} (h1 : a ||| b = b) (h2 : b ||| d = d) : a ||| d = d := by rw [← h2, ← Nat.or_assoc, h1]
theorem psN_sub (c : Nat → Nat) (o : Nat) : ∀ n g s, s ||| psN c o n g s = psN c o n g s
  | 0, _, s => Nat.or_self s
  | n + 1, g, s => by
    unfold psN
    refine sub_tr ?_ (psN_sub c o n (g + 1) _)
    cases o.testBit g && tch c s g
    · exact Nat.or_self s
    · exact or_sub _ _
theorem psN_lt {c : Nat → Nat} (h : PlOk c) (o : Nat) : ∀ n g s, g + n = c 3 → s < 2 ^ c 0 → psN c o n g s < 2 ^ c 0
  | 0, _, s, _, hs => hs
  | n + 1, g, s, hg, hs => by
    unfold psN
    refine psN_lt h o n (g + 1) _ (by omega) ?_
    cases o.testBit g && tch c s g
    · exact hs
    · exact Nat.or_lt_two_pow hs (eN_lt' h (by omega))
theorem rcN_succ (c : Nat → Nat) (o : Nat) : ∀ n s, rcN c o (n + 1) s = psN c o (c 3) 0 (rcN c o n s)
  | 0, _ => rfl
  | n + 1, s => by
    show rcN c o (n + 1) (psN c o (c 3) 0 s) = _
    rw [rcN_succ c o n]
    rfl
theorem rcN_lt {c : Nat → Nat} (h : PlOk c) (o : Nat) : ∀ n s, s < 2 ^ c 0 → rcN c o n s < 2 ^ c 0
  | 0, _, hs => hs
  | n + 1, s, hs => rcN_lt h o n _ (psN_lt h o (c 3) 0 s (by omega) hs)
/-- a growing chain of sets: after n turns it stands still, or has n + 1 members -/
theorem grow {f : Nat → Nat} {F : Nat → Nat} {P : Nat} (hP : P ≤ 6) (hf : ∀ n, f (n + 1) = F (f n)) (hs : ∀ n, f n ||| f (n + 1) = f (n + 1)) (hl : ∀ n, f n < 2 ^ P) (h1 : 1 ≤ pc6 (f 0)) (h0 : 1 ≤ P) : ∀ n, P - 1 ≤ n → f (n + 1) = f n := by
  have l64 : ∀ n, f n < 64 := fun n => Nat.lt_of_lt_of_le (hl n) (p2_le hP)
  have stay : ∀ m n, m ≤ n → f (m + 1) = f m → f (n + 1) = f n := by
    intro m n hmn hm
    induction n with
    | zero => obtain rfl : m = 0 := by omega
              exact hm
    | succ n ih =>
      by_cases e : m = n + 1
      · subst e
        exact hm
      · rw [hf (n + 1), ih (by omega), ← hf n, ih (by omega)]
  have key : ∀ n, f (n + 1) = f n ∨ n + 1 ≤ pc6 (f n) := by
    intro n
    induction n with
    | zero => exact Or.inr h1
    | succ n ih =>
      by_cases e : f (n + 1) = f n
      · exact Or.inl (stay n (n + 1) (by omega) e)
      · right
        have h2 := ih.resolve_left e
        have h3 := pc6_lt _ (l64 n) _ (l64 (n + 1)) (hs n) (fun z => e z.symm)
        omega
  intro n hn
  refine stay (P - 1) n hn ?_
  by_cases e : f (P - 1 + 1) = f (P - 1)
  · exact e
  · exfalso
    have h2 := (key (P - 1)).resolve_left e
    have h3 := pc6_lt _ (l64 (P - 1)) _ (l64 (P - 1 + 1)) (hs (P - 1)) (fun z => e z.symm)
    have h4 := pc6_le P (by omega) _ (hl (P - 1 + 1))
    omega
theorem rc_eq {c : Nat → Nat} (h : PlOk c) (o : Nat) {q : Nat} (hq : q < c 0) : rcN c o (c 0 - 1) (2 ^ q) = rc c o q := by
  have h6 := h.1
  have hl : ∀ n, rcN c o n (2 ^ q) < 2 ^ c 0 := fun n => rcN_lt h o n _ (Nat.pow_lt_pow_right (by decide) hq)
  have hg := grow (f := fun n => rcN c o n (2 ^ q)) (F := psN c o (c 3) 0) h6 (fun n => rcN_succ c o n _) (fun n => by
    show rcN c o n (2 ^ q) ||| rcN c o (n + 1) (2 ^ q) = rcN c o (n + 1) (2 ^ q)
    rw [rcN_succ]
    exact psN_sub c o _ _ _) hl (by show 1 ≤ pc6 (2 ^ q); rw [pc6_1 q (by omega)]; exact Nat.le_refl 1) (by omega)
  have k : ∀ j, rcN c o (c 0 - 1 + j) (2 ^ q) = rcN c o (c 0 - 1) (2 ^ q) := by
    intro j
    induction j with
    | zero => rfl
    | succ j ih => exact (hg (c 0 - 1 + j) (by omega)).trans ih
  have k2 := k (6 - (c 0 - 1))
  rw [show c 0 - 1 + (6 - (c 0 - 1)) = 6 by omega] at k2
  exact k2.symm
theorem lvN_sub (c : Nat → Nat) (o s : Nat) : ∀ n g m, m ||| lvN c o s n g m = lvN c o s n g m
  | 0, _, m => Nat.or_self m
  | n + 1, g, m => by
    unfold lvN
    refine sub_tr ?_ (lvN_sub c o s n (g + 1) _)
    cases o.testBit g && tch c s g
    · exact Nat.or_self m
    · exact or_sub _ _
theorem lvN_lt {c : Nat → Nat} (h : PlOk c) (o s : Nat) : ∀ n g m, g + n = c 3 → m < 2 ^ c 0 → lvN c o s n g m < 2 ^ c 0
  | 0, _, m, _, hm => hm
  | n + 1, g, m, hg, hm => by
    unfold lvN
    refine lvN_lt h o s n (g + 1) _ (by omega) ?_
    cases o.testBit g && tch c s g
    · exact hm
    · exact Nat.or_lt_two_pow hm (eN_lt' h (by omega))
theorem lvs_lt {c : Nat → Nat} (h : PlOk c) (o : Nat) {s : Nat} (hs : s < 2 ^ c 0) : ∀ k, lvs c o s k < 2 ^ c 0
  | 0 => hs
  | k + 1 => lvN_lt h o _ _ _ _ (by omega) (lvs_lt h o hs k)
theorem stT_le {c : Nat → Nat} {o s g j : Nat} (ht : tch c (lvs c o s j) g = true) : ∀ k, j < k → stT c o s g k ≤ j
  | 0, h => absurd h (by omega)
  | k + 1, h => by
    by_cases e : j = k
    · subst e
      unfold stT
      rw [ht]
      exact Nat.min_le_right _ _
    · have ih := stT_le ht k (by omega)
      unfold stT
      cases tch c (lvs c o s k) g
      · exact ih
      · exact Nat.le_trans (Nat.min_le_left _ _) ih
theorem st_eq {c : Nat → Nat} (h : PlOk c) (o : Nat) {q : Nat} (hq : q < c 0) (g : Nat) : stT c o (2 ^ q) g (c 0) = stT c o (2 ^ q) g 6 := by
  have h6 := h.1
  have hl : ∀ n, lvs c o (2 ^ q) n < 2 ^ c 0 := lvs_lt h o (Nat.pow_lt_pow_right (by decide) hq)
  have hg := grow (f := lvs c o (2 ^ q)) (F := lv c o) h6 (fun n => rfl) (fun n => lvN_sub c o _ _ _ _) hl (by show 1 ≤ pc6 (2 ^ q); rw [pc6_1 q (by omega)]; exact Nat.le_refl 1) (by omega)
  have k : ∀ j, lvs c o (2 ^ q) (c 0 - 1 + j) = lvs c o (2 ^ q) (c 0 - 1) := by
    intro j
    induction j with
    | zero => rfl
    | succ j ih => exact (hg (c 0 - 1 + j) (by omega)).trans ih
  have k2 : ∀ j, stT c o (2 ^ q) g (c 0 + j) = stT c o (2 ^ q) g (c 0) := by
    intro j
    induction j with
    | zero => rfl
    | succ j ih =>
      show (bif tch c (lvs c o (2 ^ q) (c 0 + j)) g then min (stT c o (2 ^ q) g (c 0 + j)) (c 0 + j) else stT c o (2 ^ q) g (c 0 + j)) = _
      cases ht : tch c (lvs c o (2 ^ q) (c 0 + j)) g with
      | false => exact ih
      | true =>
        have e : lvs c o (2 ^ q) (c 0 + j) = lvs c o (2 ^ q) (c 0 - 1) := by
          have := k (j + 1)
          rw [show c 0 - 1 + (j + 1) = c 0 + j by omega] at this
          exact this
        rw [e] at ht
        have hle := stT_le ht (c 0) (by omega)
        rw [cond_true, ih]
        exact Nat.min_eq_left (by omega)
  have k3 := k2 (6 - c 0)
  rw [show c 0 + (6 - c 0) = 6 by omega] at k3
  exact k3.symm
theorem stT_100 {c : Nat → Nat} {o s g : Nat} : ∀ k, stT c o s g k ≤ 100
  | 0 => Nat.le_refl _
  | k + 1 => by
    unfold stT
    cases tch c (lvs c o s k) g
    · exact stT_100 k
    · exact Nat.le_trans (Nat.min_le_left _ _) (stT_100 k)
end
section
/-! THE CLASS'S CITY: k names which of the six; each method by what it answers and changes -/
def PlIs (w : Wd) (k : Fin 6) (c : Nat → Nat) : Prop := w (cit k 0) 0 = nI (c 0) ∧ w (cit k 0) 3 = nI (c 3) ∧ w (cit k 0) 4 = nI (c 4) ∧ (∀ g, g < c 3 → w (cit k 1) g = nI (c (8 + 2 * g)) ∧ w (cit k 2) g = nI (c (9 + 2 * g))) ∧ ∀ p, p < c 4 → w (cit k 3) p = nI (so c p) ∧ w (cit k 4) p = nI (ho c p) ∧ w (cit k 5) p = nI (er c p) ∧ w (cit k 6) p = nI (we c p)
def Tab (w : Wd) (k : Fin 6) (c : Nat → Nat) (o : Nat) : Prop := ∀ p, p < c 4 → ∀ g, g < c 3 → w (cit k 8) (8 * p + g) = nI (st c o p g)
def TbIs (w : Wd) (k : Fin 6) (c : Nat → Nat) : Prop := w (cit k 0) 16 = -(nI 1) ∨ ∃ mo, mo < 256 ∧ w (cit k 0) 16 = nI mo ∧ Tab w k c mo
def DyIs (w : Wd) (k : Fin 6) (c : Nat → Nat) (nr ti o sp dy : Nat) (wf : Nat → Nat) : Prop := w (cit k 0) 1 = nI nr ∧ w (cit k 0) 2 = nI ti ∧ w (cit k 0) 12 = nI o ∧ w (cit k 0) 13 = nI sp ∧ w (cit k 0) 14 = nI dy ∧ ∀ p, p < c 4 → w (cit k 7) p = nI (wf p)
def DyOk (c : Nat → Nat) (nr ti o sp : Nat) (wf : Nat → Nat) : Prop := nr ≤ 3 ∧ ti ≤ 2 ∧ o < 256 ∧ sp < 32 ∧ ∀ p, p < c 4 → wf p < 256
def Fr (k : Fin 6) (w w' : Wd) : Prop := ∀ t, (∀ p, t ≠ cit k p) → w' t = w t
theorem Fr.rf {k : Fin 6} {w : Wd} : Fr k w w := fun _ _ => rfl
theorem Fr.tr {k : Fin 6} {w w1 w2 : Wd} (h1 : Fr k w w1) (h2 : Fr k w1 w2) : Fr k w w2 := fun t ht => (h2 t ht).trans (h1 t ht)
theorem Fr.set {k : Fin 6} {w : Wd} {p j : Nat} {x : Int32} : Fr k w (wset w (cit k p) j x) := fun t ht => wset_ne (ht p)
theorem wset_s {w : Wd} {t : TA} {k : Nat} {x : Int32} : wset w t k x t k = x := by simp [wset]
theorem wset_k {w : Wd} {t : TA} {k j : Nat} {x : Int32} (h : j ≠ k) : wset w t k x t j = w t j := by simp [wset, h]
theorem cit_p {k : Fin 6} {p q : Nat} (h : p ≠ q) : cit k p ≠ cit k q := fun e => h (by cases e; rfl)
theorem nJ_max0 {a b : Nat} (ha : a < 2 ^ 30) (hb : b < 2 ^ 30) : (if nI 0 < nI a - nI b then nI a - nI b else nI 0) = nI (a - b) := by
  rcases Nat.lt_or_ge a b with h | h
  · have h1 := pk_sneg hb h
    have h2 : ¬ nI 0 < nI a - nI b := fun z => Int32.lt_irrefl (Int32.lt_trans z h1)
    rw [if_neg h2, show a - b = 0 by omega]
  · rw [pk_sub h]
    by_cases h2 : nI 0 < nI (a - b)
    · rw [if_pos h2]
    · rw [if_neg h2]
      rw [nJ_lt (by decide) (by omega)] at h2
      rw [show a - b = 0 by omega]
theorem nJ_min {a b : Nat} (ha : a < 2 ^ 31) (hb : b < 2 ^ 31) : (if nI b < nI a then nI b else nI a) = nI (min a b) := by
  by_cases h : nI b < nI a
  · rw [if_pos h]
    rw [nJ_lt hb ha] at h
    rw [Nat.min_eq_right (by omega)]
  · rw [if_neg h]
    rw [nJ_lt hb ha] at h
    rw [Nat.min_eq_left (by omega)]
theorem nJ_m1 {o : Nat} (h : o < 256) : ¬ -(nI 1) = nI o := by
  intro e
  have h1 := congrArg Int32.toInt e
  rw [nI_toInt (by omega)] at h1
  have h2 : (-(nI 1)).toInt = -1 := by decide
  omega
theorem bI_f0 : bI false = 0 := by decide
theorem bI_t0 : ¬ bI true = 0 := by decide
theorem sp_isThere {w : Wd} {k : Fin 6} {a : Nat} (h : w (cit k 0) 0 = nI a) (ha : a < 2 ^ 31) : Cl 1 jC_isThere [vR (cit k 0)] w (some (vI (bI (decide (0 < a)))), w) := by
  refine Cl.of rfl rfl rfl (lc := [some (vR (cit k 0))]) rfl ?_
  refine Rn.if1 60 rfl rfl (fun h1 => ?_) (fun h1 => ?_)
  · refine Rn.zr 60 rfl rfl rfl (by decide) ?_
    dsimp only [tm_c2P] at h1
    rw [h, show (0 : Int32) = nI 0 from rfl, nJ_le ha (by decide)] at h1
    rw [decide_eq_false (by omega)]
    rfl
  · refine Rn.zr 60 rfl rfl rfl (by decide) ?_
    dsimp only [tm_c2P] at h1
    rw [h, show (0 : Int32) = nI 0 from rfl, nJ_le ha (by decide)] at h1
    rw [decide_eq_true (by omega)]
    rfl
theorem sp_allGates {w : Wd} {k : Fin 6} {a : Nat} (h : w (cit k 0) 3 = nI a) (ha : a ≤ 8) : Cl 1 jC_allGates [vR (cit k 0)] w (some (vI (nI (2 ^ a - 1))), w) := by
  refine Cl.of rfl rfl rfl (lc := [some (vR (cit k 0))]) rfl ?_
  refine Rn.ir 60 rfl rfl rfl ?_
  dsimp only
  rw [h, nJ_1shl (by omega), pk_sub (Nat.one_le_two_pow)]
theorem sp_isGateSet {w : Wd} {k : Fin 6} {a : Nat} (h : w (cit k 0) 3 = nI a) (ha : a ≤ 8) (x : Int32) : ∃ b : Bool, Cl 2 jC_isGateSet [vR (cit k 0), vI x] w (some (vI (bI b)), w) ∧ (b = true ↔ ∃ j, j < 2 ^ a ∧ x = nI j) := by
  have hp : 2 ^ a ≤ 256 := Nat.pow_le_pow_right (n := 2) (by decide) ha
  have hp1 : 1 ≤ 2 ^ a := Nat.one_le_two_pow
  rcases pk_ix x (n := 2 ^ a) (by omega) with hx | hx | ⟨j, hj, rfl⟩
  · refine ⟨false, ?_, ⟨fun z => (by cases z), fun ⟨j, h1, h2⟩ => ?_⟩⟩
    · refine Cl.of rfl rfl rfl (lc := [some (vR (cit k 0)), some (vI x)]) rfl ?_
      refine Rn.if1t 60 rfl rfl hx ?_
      exact Rn.zr 60 rfl rfl rfl (by decide) rfl
    · subst h2
      exact absurd hx (nI_pos (by omega))
  · have h0 : ¬ x < 0 := by
      intro hx0
      rw [Int32.lt_iff_toInt_lt] at hx0
      rw [Int32.le_iff_toInt_le, nI_toInt (by omega)] at hx
      have : (0 : Int32).toInt = 0 := by decide
      omega
    refine ⟨false, ?_, ⟨fun z => (by cases z), fun ⟨j, h1, h2⟩ => ?_⟩⟩
    · refine Cl.of rfl rfl rfl (lc := [some (vR (cit k 0)), some (vI x)]) rfl ?_
      refine Rn.if1f 60 rfl rfl h0 ?_
      refine Rn.cv 60 rfl rfl rfl rfl rfl (sp_allGates h ha) (by decide) ?_
      refine Rn.if2t 60 rfl rfl ?_ ?_
      · dsimp only [tm_c2P]
        rw [Int32.lt_iff_toInt_lt, nI_toInt (by omega)]
        rw [Int32.le_iff_toInt_le, nI_toInt (by omega)] at hx
        omega
      · exact Rn.zr 60 rfl rfl rfl (by decide) rfl
    · subst h2
      rw [nJ_le (by omega) (by omega)] at hx
      omega
  · refine ⟨true, ?_, ⟨fun _ => ⟨j, hj, rfl⟩, fun _ => rfl⟩⟩
    refine Cl.of rfl rfl rfl (lc := [some (vR (cit k 0)), some (vI (nI j))]) rfl ?_
    refine Rn.if1f 60 rfl rfl (nI_pos (by omega)) ?_
    refine Rn.cv 60 rfl rfl rfl rfl rfl (sp_allGates h ha) (by decide) ?_
    refine Rn.if2f 60 rfl rfl ?_ ?_
    · dsimp only [tm_c2P]
      rw [nJ_lt (by omega) (by omega)]
      omega
    · exact Rn.zr 60 rfl rfl rfl (by decide) rfl
theorem sp_isOpen {w : Wd} {k : Fin 6} {g o : Nat} (ho : w (cit k 0) 12 = nI o) (hg : g < 8) (h8 : o < 256) : Cl 1 jC_isOpen [vR (cit k 0), vI (nI g)] w (some (vI (bI (o.testBit g))), w) := by
  refine Cl.of rfl rfl rfl (lc := [some (vR (cit k 0)), some (vI (nI g))]) rfl ?_
  refine Rn.if2 60 rfl rfl (fun h => ?_) (fun h => ?_)
  · refine Rn.zr 60 rfl rfl rfl (by decide) ?_
    dsimp only [tm_c2P] at h
    rw [ho, nJ_bit (by omega) (by omega), bI_eq1] at h
    rw [Bool.eq_false_iff.mpr h]
    rfl
  · refine Rn.zr 60 rfl rfl rfl (by decide) ?_
    dsimp only [tm_c2P] at h
    rw [ho, nJ_bit (by omega) (by omega), bI_eq1, Classical.not_not] at h
    rw [h]
    rfl
theorem sp_endsOf {w : Wd} {k : Fin 6} {c : Nat → Nat} (hc : PlOk c) (hp : PlIs w k c) {g : Nat} (hg : g < c 3) : Cl 1 jC_endsOf [vR (cit k 0), vI (nI g)] w (some (vI (nI (eN c g))), w) := by
  obtain ⟨h1, h2⟩ := hp.2.2.2.1 g hg
  obtain ⟨h3, h4⟩ := hc.2.2.2.1 g hg
  have h8 := hc.2.1
  have h0 := hc.1
  refine Cl.of rfl rfl rfl (lc := [some (vR (cit k 0)), some (vI (nI g))]) rfl ?_
  refine Rn.al 60 rfl rfl rfl rfl (by omega) ?_
  refine Rn.al 60 rfl rfl rfl rfl (by omega) ?_
  refine Rn.ir 60 rfl rfl rfl ?_
  dsimp only
  rw [h1, h2, nJ_1shl (by omega), nJ_1shl (by omega), nJ_or]
  rfl
theorem tch_nI {c : Nat → Nat} (hc : PlOk c) {g : Nat} (hg : g < c 3) (s : Nat) : nI s &&& nI (eN c g) = 0 ↔ tch c s g = false := by
  have hel := eN_lt hc hg
  rw [nJ_and, nJ_eq0 (Nat.lt_of_lt_of_le (nJ_and_lt hel) (by decide))]
  unfold tch
  simp
theorem sp_reach_in {w : Wd} {k : Fin 6} {c : Nat → Nat} {o : Nat} {pl pa : Int32} {r : Rs} (hc : PlOk c) (hp : PlIs w k c) (ho : w (cit k 0) 12 = nI o) (h8 : o < 256) : ∀ n g s, g + n = c 3 → Rn none 1 jC_reachedFrom (61, [some (vR (cit k 0)), some (vI pl), some (vI (nI (psN c o n g s))), some (vI pa), some (vI (nI (c 3)))], [], w) r → Rn none 1 jC_reachedFrom (17, [some (vR (cit k 0)), some (vI pl), some (vI (nI s)), some (vI pa), some (vI (nI g))], [], w) r := by
  have hc3 := hc.2.1
  intro n
  induction n with
  | zero =>
    intro g s hg k1
    have e : g = c 3 := by omega
    subst e
    exact Rn.if2t 60 rfl rfl (by dsimp only [tm_c2P]; rw [hp.2.1]; exact nI_le (Nat.le_refl _) (by omega)) k1
  | succ n ih =>
    intro g s hg k1
    have hgl : g < c 3 := by omega
    refine Rn.if2f 60 rfl rfl (by dsimp only [tm_c2P]; rw [hp.2.1]; exact nI_ge hgl (by omega)) ?_
    refine Rn.cv 60 rfl rfl rfl rfl rfl (sp_isOpen ho (by omega) h8) (by decide) ?_
    have ih := ih (g + 1) (bif o.testBit g && tch c s g then s ||| eN c g else s) (by omega) k1
    rw [nI_succ g] at ih
    refine Rn.if1 60 rfl rfl (fun h => ?_) (fun h => ?_)
    · dsimp only [tm_c2P] at h
      rw [bI_eq0] at h
      rw [h] at ih
      exact Rn.at 2 rfl ih
    · dsimp only [tm_c2P] at h
      rw [bI_eq0, Bool.not_eq_false] at h
      rw [h] at ih
      refine Rn.cv 60 rfl rfl rfl rfl rfl (sp_endsOf hc hp hgl) (by decide) ?_
      refine Rn.if1 60 rfl rfl (fun h => ?_) (fun h => ?_)
      · dsimp only [tm_c2P] at h
        rw [tch_nI hc hgl] at h
        rw [h] at ih
        exact Rn.at 2 rfl ih
      · dsimp only [tm_c2P] at h
        rw [tch_nI hc hgl, Bool.not_eq_false] at h
        rw [h] at ih
        refine Rn.cv 60 rfl rfl rfl rfl rfl (sp_endsOf hc hp hgl) (by decide) ?_
        rw [show (bif true && true then s ||| eN c g else s) = s ||| eN c g from rfl, ← nJ_or] at ih
        exact Rn.at 4 rfl ih
theorem sp_reachedFrom {w : Wd} {k : Fin 6} {c : Nat → Nat} {o : Nat} (hc : PlOk c) (hp : PlIs w k c) (ho : w (cit k 0) 12 = nI o) (h8 : o < 256) {p : Nat} (hpl : p < c 0) : Cl 2 jC_reachedFrom [vR (cit k 0), vI (nI p)] w (some (vI (nI (rc c o p))), w) := by
  have hc0 := hc.1
  refine Cl.of rfl rfl rfl (lc := [some (vR (cit k 0)), some (vI (nI p)), none, none, none]) rfl ?_
  have key : ∀ n pa s x, 1 ≤ pa → (pa + n = c 0 ∨ (n = 0 ∧ c 0 ≤ pa)) → pa ≤ 6 → Rn none 1 jC_reachedFrom (6, [some (vR (cit k 0)), some (vI (nI p)), some (vI (nI s)), some (vI (nI pa)), x], [], w) (some (vI (nI (rcN c o n s))), w) := by
    intro n
    induction n with
    | zero =>
      intro pa s x h1 h2 h3
      refine Rn.if2t 60 rfl rfl (by dsimp only [tm_c2P]; rw [hp.1]; exact nI_le (by omega) (by omega)) ?_
      exact Rn.ir 60 rfl rfl rfl rfl
    | succ n ih =>
      intro pa s x h1 h2 h3
      have h4 : pa + n + 1 = c 0 := by omega
      refine Rn.if2f 60 rfl rfl (by dsimp only [tm_c2P]; rw [hp.1]; exact nI_ge (by omega) (by omega)) ?_
      refine Rn.at 2 rfl (sp_reach_in hc hp ho h8 (c 3) 0 s (by omega) ?_)
      have ih := ih (pa + 1) (psN c o (c 3) 0 s) (some (vI (nI (c 3)))) (by omega) (by omega) (by omega)
      rw [nI_succ] at ih
      exact Rn.at 2 rfl ih
  have k2 := key (c 0 - 1) 1 (2 ^ p) none (by omega) (by omega) (by omega)
  rw [← nJ_1shl (by omega), rc_eq hc o hpl] at k2
  exact Rn.at 6 rfl k2
theorem rc_lt {c : Nat → Nat} (hc : PlOk c) (o : Nat) {p : Nat} (hp : p < c 0) : rc c o p < 64 := Nat.lt_of_lt_of_le (rcN_lt hc o 6 _ (Nat.pow_lt_pow_right (by decide) hp)) (p2_le hc.1)
theorem sp_isGlad {w : Wd} {k : Fin 6} {c : Nat → Nat} {o : Nat} (hc : PlOk c) (hp : PlIs w k c) (ho : w (cit k 0) 12 = nI o) (h8 : o < 256) {p : Nat} (hpl : p < c 4) : Cl 3 jC_isGlad [vR (cit k 0), vI (nI p)] w (some (vI (bI (gl c o p))), w) := by
  obtain ⟨a1, a2, a3, a4⟩ := hp.2.2.2.2 p hpl
  obtain ⟨b1, b2, b3, b4⟩ := hc.2.2.2.2 p hpl
  have hc4 := hc.2.2.1
  have hc0 := hc.1
  have hr := rc_lt hc o b2
  refine Cl.of rfl rfl rfl (lc := [some (vR (cit k 0)), some (vI (nI p))]) rfl ?_
  refine Rn.al 60 rfl rfl rfl rfl (by omega) ?_
  rw [a2]
  refine Rn.cv 60 rfl rfl rfl rfl rfl (sp_reachedFrom hc hp ho h8 b2) (by decide) ?_
  refine Rn.al 60 rfl rfl rfl rfl (by omega) ?_
  rw [a3]
  refine Rn.if2 60 rfl rfl (fun h => ?_) (fun h => ?_)
  · dsimp only [tm_c2P] at h
    rw [nJ_bit (by omega) (by omega), bI_eq1] at h
    refine Rn.zr 60 rfl rfl rfl (by decide) ?_
    unfold gl
    rw [Bool.eq_false_iff.mpr h]
    rfl
  · dsimp only [tm_c2P] at h
    rw [nJ_bit (by omega) (by omega), bI_eq1, Classical.not_not] at h
    refine Rn.zr 60 rfl rfl rfl (by decide) ?_
    unfold gl
    rw [h]
    rfl
theorem sp_glad {w : Wd} {k : Fin 6} {c : Nat → Nat} {o : Nat} (hc : PlOk c) (hp : PlIs w k c) (ho : w (cit k 0) 12 = nI o) (h8 : o < 256) : Cl 4 jC_glad [vR (cit k 0)] w (some (vI (nI (bs (gl c o) (c 4)))), w) := by
  have hc4 := hc.2.2.1
  refine Cl.of rfl rfl rfl (lc := [some (vR (cit k 0)), none, none]) rfl ?_
  have key : ∀ n p s, p + n = c 4 → Rn none 3 jC_glad (4, [some (vR (cit k 0)), some (vI (nI s)), some (vI (nI p))], [], w) (some (vI (nI (bsN (gl c o) n p s))), w) := by
    intro n
    induction n with
    | zero =>
      intro p s h1
      refine Rn.if2t 60 rfl rfl (by dsimp only [tm_c2P]; rw [hp.2.2.1]; exact nI_le (by omega) (by omega)) ?_
      exact Rn.ir 60 rfl rfl rfl rfl
    | succ n ih =>
      intro p s h1
      have ih := ih (p + 1) (s ||| bif gl c o p then 2 ^ p else 0) (by omega)
      rw [nI_succ, ← nJ_or] at ih
      unfold bsN
      refine Rn.if2f 60 rfl rfl (by dsimp only [tm_c2P]; rw [hp.2.2.1]; exact nI_ge (by omega) (by omega)) ?_
      refine Rn.cv 60 rfl rfl rfl rfl rfl (sp_isGlad hc hp ho h8 (by omega)) (by decide) ?_
      refine Rn.if1 60 rfl rfl (fun h => ?_) (fun h => ?_)
      · dsimp only [tm_c2P] at h
        rw [bI_eq0] at h
        rw [h] at ih ⊢
        exact Rn.at 5 rfl ih
      · dsimp only [tm_c2P] at h
        rw [bI_eq0, Bool.not_eq_false] at h
        rw [h] at ih ⊢
        rw [show (bif true then 2 ^ p else 0) = 2 ^ p from rfl, ← nJ_1shl (by omega)] at ih
        exact Rn.at 8 rfl ih
  exact Rn.at 4 rfl (key (c 4) 0 0 (by omega))
theorem sp_isWalledIn {w : Wd} {k : Fin 6} {c : Nat → Nat} {o : Nat} (hc : PlOk c) (hp : PlIs w k c) (hop : w (cit k 0) 12 = nI o) (h8 : o < 256) {p : Nat} (hpl : p < c 4) : Cl 1 jC_isWalledIn [vR (cit k 0), vI (nI p)] w (some (vI (bI (wd c o p))), w) := by
  obtain ⟨a1, a2, a3, a4⟩ := hp.2.2.2.2 p hpl
  obtain ⟨b1, b2, b3, b4⟩ := hc.2.2.2.2 p hpl
  have hc4 := hc.2.2.1
  have hc3 := hc.2.1
  have hc0 := hc.1
  refine Cl.of rfl rfl rfl (lc := [some (vR (cit k 0)), some (vI (nI p)), none, none, none]) rfl ?_
  refine Rn.al 60 rfl rfl rfl rfl (by omega) ?_
  rw [a2]
  have key : ∀ n g x, g + n = c 3 → Rn none 0 jC_isWalledIn (9, [some (vR (cit k 0)), some (vI (nI p)), some (vI (nI (ho c p))), some (vI (nI g)), x], [], w) (some (vI (bI (wdN c o p n g))), w) := by
    intro n
    induction n with
    | zero =>
      intro g x h1
      refine Rn.if2t 60 rfl rfl (by dsimp only [tm_c2P]; rw [hp.2.1]; exact nI_le (by omega) (by omega)) ?_
      exact Rn.zr 60 rfl rfl rfl (by decide) rfl
    | succ n ih =>
      intro g x h1
      have hgl : g < c 3 := by omega
      obtain ⟨e1, e2⟩ := hp.2.2.2.1 g hgl
      obtain ⟨f1, f2⟩ := hc.2.2.2.1 g hgl
      refine Rn.if2f 60 rfl rfl (by dsimp only [tm_c2P]; rw [hp.2.1]; exact nI_ge hgl (by omega)) ?_
      have fin : ∀ b : Bool, atH c p g = b → Rn none 0 jC_isWalledIn (44, [some (vR (cit k 0)), some (vI (nI p)), some (vI (nI (ho c p))), some (vI (nI g)), some (vI (bI b))], [], w) (some (vI (bI (wdN c o p (n + 1) g))), w) := by
        intro b hb
        have ih := ih (g + 1) (some (vI (bI b))) (by omega)
        rw [nI_succ] at ih
        unfold wdN
        rw [hb]
        cases b with
        | false => exact Rn.if1t 60 rfl rfl bI_f0 (Rn.at 2 rfl ih)
        | true =>
          refine Rn.if1f 60 rfl rfl bI_t0 ?_
          refine Rn.if2 60 rfl rfl (fun h => ?_) (fun h => ?_)
          · dsimp only [tm_c2P] at h
            rw [hop, nJ_bit (by omega) (by omega), bI_eq1] at h
            rw [Bool.eq_false_iff.mpr h]
            exact Rn.at 2 rfl ih
          · dsimp only [tm_c2P] at h
            rw [hop, nJ_bit (by omega) (by omega), bI_eq1, Classical.not_not] at h
            rw [h]
            exact Rn.zr 60 rfl rfl rfl (by decide) rfl
      refine Rn.al 60 rfl rfl rfl rfl (by omega) ?_
      rw [e1]
      refine Rn.if2 60 rfl rfl (fun h => ?_) (fun h => ?_)
      · dsimp only [tm_c2P] at h
        rw [nI_eq (by omega) (by omega)] at h
        exact Rn.at 3 rfl (fin true (by unfold atH; rw [h]; simp))
      · dsimp only [tm_c2P] at h
        rw [nI_eq (by omega) (by omega)] at h
        refine Rn.al 60 rfl rfl rfl rfl (by omega) ?_
        rw [e2]
        refine Rn.if2 60 rfl rfl (fun h2 => ?_) (fun h2 => ?_)
        · dsimp only [tm_c2P] at h2
          rw [nI_eq (by omega) (by omega)] at h2
          exact Rn.at 2 rfl (fin false (by unfold atH; rw [decide_eq_false h, decide_eq_false h2]; rfl))
        · dsimp only [tm_c2P] at h2
          rw [nI_eq (by omega) (by omega), Classical.not_not] at h2
          exact Rn.at 3 rfl (fin true (by unfold atH; rw [decide_eq_true h2]; simp))
  exact Rn.at 3 rfl (key (c 3) 0 none (by omega))
theorem sp_walledIn {w : Wd} {k : Fin 6} {c : Nat → Nat} {o : Nat} (hc : PlOk c) (hp : PlIs w k c) (ho : w (cit k 0) 12 = nI o) (h8 : o < 256) : Cl 2 jC_walledIn [vR (cit k 0)] w (some (vI (nI (bs (wd c o) (c 4)))), w) := by
  have hc4 := hc.2.2.1
  refine Cl.of rfl rfl rfl (lc := [some (vR (cit k 0)), none, none]) rfl ?_
  have key : ∀ n p s, p + n = c 4 → Rn none 1 jC_walledIn (4, [some (vR (cit k 0)), some (vI (nI s)), some (vI (nI p))], [], w) (some (vI (nI (bsN (wd c o) n p s))), w) := by
    intro n
    induction n with
    | zero =>
      intro p s h1
      refine Rn.if2t 60 rfl rfl (by dsimp only [tm_c2P]; rw [hp.2.2.1]; exact nI_le (by omega) (by omega)) ?_
      exact Rn.ir 60 rfl rfl rfl rfl
    | succ n ih =>
      intro p s h1
      have ih := ih (p + 1) (s ||| bif wd c o p then 2 ^ p else 0) (by omega)
      rw [nI_succ, ← nJ_or] at ih
      unfold bsN
      refine Rn.if2f 60 rfl rfl (by dsimp only [tm_c2P]; rw [hp.2.2.1]; exact nI_ge (by omega) (by omega)) ?_
      refine Rn.cv 60 rfl rfl rfl rfl rfl (sp_isWalledIn hc hp ho h8 (by omega)) (by decide) ?_
      refine Rn.if1 60 rfl rfl (fun h => ?_) (fun h => ?_)
      · dsimp only [tm_c2P] at h
        rw [bI_eq0] at h
        rw [h] at ih ⊢
        exact Rn.at 5 rfl ih
      · dsimp only [tm_c2P] at h
        rw [bI_eq0, Bool.not_eq_false] at h
        rw [h] at ih ⊢
        rw [show (bif true then 2 ^ p else 0) = 2 ^ p from rfl, ← nJ_1shl (by omega)] at ih
        exact Rn.at 8 rfl ih
  exact Rn.at 4 rfl (key (c 4) 0 0 (by omega))
end
section
/-! the class's city: steps measured, votes, dawn -/
def fillW (w : Wd) (t : TA) (m : Nat) (x : Int32) : Wd := fun t' j => if t' = t then (if j < m then x else w t j) else w t' j
theorem fillW_ne {w : Wd} {t u : TA} {m : Nat} {x : Int32} (h : u ≠ t) : fillW w t m x u = w u := by
  funext j
  unfold fillW
  rw [if_neg h]
theorem fillW_lt {w : Wd} {t : TA} {m j : Nat} {x : Int32} (h : j < m) : fillW w t m x t j = x := by
  unfold fillW
  rw [if_pos rfl, if_pos h]
theorem fillW_0 {w : Wd} {t : TA} {x : Int32} : fillW w t 0 x = w := by
  funext u j
  unfold fillW
  by_cases h : u = t
  · rw [if_pos h, if_neg (by omega), h]
  · rw [if_neg h]
theorem fillW_s {w : Wd} {t : TA} {m : Nat} {x : Int32} : wset (fillW w t m x) t m x = fillW w t (m + 1) x := by
  funext u j
  by_cases h : u = t
  · subst h
    by_cases h2 : j = m
    · subst h2
      simp [wset, fillW]
    · by_cases h3 : j < m
      · simp [wset, fillW, h2, h3, show j < m + 1 by omega]
      · simp [wset, fillW, h2, h3, show ¬ j < m + 1 by omega]
  · simp [wset, fillW, h]
theorem sp_fill {w : Wd} {t : TA} {m : Nat} {x : Int32} (ht : tm_arr t = some (0, m)) : Cl 1 jAr_fill [vR t, vI x] w (none, fillW w t m x) := by
  have hm := tm_arr_le ht
  refine Cl.of rfl rfl rfl (lc := [some (vR t), some (vI x), none, none]) rfl ?_
  have key : ∀ n i, i + n = m → Rn none 0 jAr_fill (5, [some (vR t), some (vI x), some (vI (nI i)), some (vI (nI m))], [], fillW w t i x) (none, fillW w t m x) := by
    intro n
    induction n with
    | zero =>
      intro i hi
      obtain rfl : i = m := by omega
      refine Rn.if2t 60 rfl rfl (nI_le (Nat.le_refl _) (by omega)) ?_
      exact Rn.vr 60 rfl rfl rfl rfl
    | succ n ih =>
      intro i hi
      refine Rn.if2f 60 rfl rfl (nI_ge (by omega) (by omega)) ?_
      refine Rn.as 60 rfl rfl ht rfl (by omega) ?_
      have ih := ih (i + 1) (by omega)
      rw [nI_succ, ← fillW_s] at ih
      exact Rn.at 2 rfl ih
  have k := key m 0 (by omega)
  rw [fillW_0] at k
  refine Rn.at 3 (x := (3, [some (vR t), some (vI x), some (vI (nI 0)), none], [vR t], w)) rfl ?_
  refine Rn.sem (ins := .arraylength) rfl (y := (4, [some (vR t), some (vI x), some (vI (nI 0)), none], [vI (nI m)], w)) ?_ ?_
  · show tm_len none (3 + 1) [some (vR t), some (vI x), some (vI (nI 0)), none] [vR t] w = _
    unfold tm_len
    dsimp only
    rw [ht]
    rfl
  · exact Rn.at 1 rfl k
def MfI (c : Nat → Nat) (k : Fin 6) (o p : Nat) (w0 w : Wd) (pa i : Nat) : Prop := (∀ t, t ≠ cit k 8 → w t = w0 t) ∧ (∀ x, (∀ g, g < c 3 → x ≠ 8 * p + g) → w (cit k 8) x = w0 (cit k 8) x) ∧ ∀ g, g < c 3 → w (cit k 8) (8 * p + g) = nI (stT c o (2 ^ ho c p) g (if g < i then pa + 1 else pa))
theorem PlIs.of {w w' : Wd} {k : Fin 6} {c : Nat → Nat} (h : PlIs w k c) (h0 : w' (cit k 0) 0 = w (cit k 0) 0) (h3 : w' (cit k 0) 3 = w (cit k 0) 3) (h4 : w' (cit k 0) 4 = w (cit k 0) 4) (hp : ∀ p, 1 ≤ p → p ≤ 6 → w' (cit k p) = w (cit k p)) : PlIs w' k c := by
  obtain ⟨a1, a2, a3, a4, a5⟩ := h
  refine ⟨h0.trans a1, h3.trans a2, h4.trans a3, fun g hg => ?_, fun p hp' => ?_⟩
  · rw [hp 1 (by decide) (by decide), hp 2 (by decide) (by decide)]
    exact a4 g hg
  · rw [hp 3 (by decide) (by decide), hp 4 (by decide) (by decide), hp 5 (by decide) (by decide), hp 6 (by decide) (by decide)]
    exact a5 p hp'
theorem sp_mf_in {w0 : Wd} {k : Fin 6} {c : Nat → Nat} {o p pa : Nat} {r : Rs} (hc : PlOk c) (hp : PlIs w0 k c) (hop : w0 (cit k 0) 12 = nI o) (h8 : o < 256) (hpl : p < c 4) (hpa : pa < c 0) : ∀ n g m w x6, g + n = c 3 → MfI c k o p w0 w pa g → ∃ w' x6', MfI c k o p w0 w' pa (c 3) ∧ ∀ r, Rn none 1 jC_measureFor (102, [some (vR (cit k 0)), some (vI (nI p)), some (vI (nI (lvs c o (2 ^ ho c p) pa))), some (vI (nI pa)), some (vI (nI (lvN c o (lvs c o (2 ^ ho c p) pa) n g m))), some (vI (nI (c 3))), x6'], [], w') r → Rn none 1 jC_measureFor (25, [some (vR (cit k 0)), some (vI (nI p)), some (vI (nI (lvs c o (2 ^ ho c p) pa))), some (vI (nI pa)), some (vI (nI m)), some (vI (nI g)), x6], [], w) r := by
  have hc4 := hc.2.2.1
  have hc3 := hc.2.1
  have hc0 := hc.1
  intro n
  induction n with
  | zero =>
    intro g m w x6 hg hI
    obtain rfl : g = c 3 := by omega
    refine ⟨w, x6, hI, fun r k1 => ?_⟩
    have hpw : w (cit k 0) 3 = nI (c 3) := by rw [hI.1 _ (cit_p (by decide))]; exact hp.2.1
    exact Rn.if2t 60 rfl rfl (by dsimp only [tm_c2P]; rw [hpw]; exact nI_le (Nat.le_refl _) (by omega)) k1
  | succ n ih =>
    intro g m w x6 hg hI
    have hgl : g < c 3 := by omega
    have e0 : w (cit k 0) = w0 (cit k 0) := hI.1 _ (cit_p (by decide))
    have hpw : PlIs w k c := hp.of (by rw [e0]) (by rw [e0]) (by rw [e0]) (fun q h1 h2 => hI.1 _ (cit_p (by omega)))
    have how : w (cit k 0) 12 = nI o := by rw [e0]; exact hop
    have hpass : MfI c k o p w0 w pa (g + 1) → tch c (lvs c o (2 ^ ho c p) pa) g = false ∨ True := fun _ => Or.inr trivial
    have hstart : ∀ {r}, Rn none 1 jC_measureFor (42, [some (vR (cit k 0)), some (vI (nI p)), some (vI (nI (lvs c o (2 ^ ho c p) pa))), some (vI (nI pa)), some (vI (nI m)), some (vI (nI g)), x6], [vI (nI (lvs c o (2 ^ ho c p) pa) &&& nI (eN c g))], w) r → Rn none 1 jC_measureFor (25, [some (vR (cit k 0)), some (vI (nI p)), some (vI (nI (lvs c o (2 ^ ho c p) pa))), some (vI (nI pa)), some (vI (nI m)), some (vI (nI g)), x6], [], w) r := by
      intro r k1
      refine Rn.if2f 60 rfl rfl (by dsimp only [tm_c2P]; rw [hpw.2.1]; exact nI_ge hgl (by omega)) ?_
      refine Rn.cv 60 rfl rfl rfl rfl rfl (sp_endsOf hc hpw hgl) (by decide) ?_
      exact Rn.at 1 rfl k1
    cases ht : tch c (lvs c o (2 ^ ho c p) pa) g with
    | false =>
      have hI2 : MfI c k o p w0 w pa (g + 1) := by
        refine ⟨hI.1, hI.2.1, fun g' hg' => ?_⟩
        rw [hI.2.2 g' hg']
        by_cases e : g' = g
        · subst e
          rw [if_neg (by omega), if_pos (by omega)]
          rw [show stT c o (2 ^ ho c p) g' (pa + 1) = stT c o (2 ^ ho c p) g' pa by rw [stT, ht, cond_false]]
        · by_cases e2 : g' < g
          · rw [if_pos e2, if_pos (by omega)]
          · rw [if_neg e2, if_neg (by omega)]
      obtain ⟨w', x6', h1, h2⟩ := ih (g + 1) m w x6 (by omega) hI2
      refine ⟨w', x6', h1, fun r k1 => hstart ?_⟩
      refine Rn.if1t 60 rfl rfl ((tch_nI hc hgl _).mpr ht) ?_
      have h3 := h2 r (by
        have e : lvN c o (lvs c o (2 ^ ho c p) pa) (n + 1) g m = lvN c o (lvs c o (2 ^ ho c p) pa) n (g + 1) m := by
          rw [lvN, ht, Bool.and_false, cond_false]
        rw [e] at k1
        exact k1)
      rw [nI_succ g] at h3
      exact Rn.at 2 rfl h3
    | true =>
      have hv : w (cit k 8) (8 * p + g) = nI (stT c o (2 ^ ho c p) g pa) := by
        rw [hI.2.2 g hgl, if_neg (by omega)]
      have hT := stT_100 (c := c) (o := o) (s := 2 ^ ho c p) (g := g) pa
      have hI2 : MfI c k o p w0 (wset w (cit k 8) (8 * p + g) (nI (min (stT c o (2 ^ ho c p) g pa) pa))) pa (g + 1) := by
        refine ⟨fun t hne => (wset_ne hne).trans (hI.1 t hne), fun x hx => ?_, fun g' hg' => ?_⟩
        · rw [wset_k (hx g hgl)]
          exact hI.2.1 x hx
        · by_cases e : g' = g
          · subst e
            rw [wset_s, if_pos (by omega), stT, ht, cond_true]
          · rw [wset_k (by omega), hI.2.2 g' hg']
            by_cases e2 : g' < g
            · rw [if_pos e2, if_pos (by omega)]
            · rw [if_neg e2, if_neg (by omega)]
      obtain ⟨w', x6', h1, h2⟩ := ih (g + 1) (bif o.testBit g then m ||| eN c g else m) (wset w (cit k 8) (8 * p + g) (nI (min (stT c o (2 ^ ho c p) g pa) pa))) (some (vI (nI (8 * p + g)))) (by omega) hI2
      refine ⟨w', x6', h1, fun r k1 => hstart ?_⟩
      have h3 := h2 r (by
        have e : lvN c o (lvs c o (2 ^ ho c p) pa) (n + 1) g m = lvN c o (lvs c o (2 ^ ho c p) pa) n (g + 1) (bif o.testBit g then m ||| eN c g else m) := by
          rw [lvN, ht, Bool.and_true]
        rw [e] at k1
        exact k1)
      rw [nI_succ g] at h3
      have ht2 : ¬ nI (lvs c o (2 ^ ho c p) pa) &&& nI (eN c g) = 0 := by rw [tch_nI hc hgl, ht]; exact fun z => by cases z
      refine Rn.if1f 60 rfl rfl ht2 ?_
      have ei : nI p * nI 8 + nI g = nI (8 * p + g) := by rw [pk_mul, nI_add, Nat.mul_comm]
      have e7 : tm_adv none jC_measureFor 5 45 [some (vR (cit k 0)), some (vI (nI p)), some (vI (nI (lvs c o (2 ^ ho c p) pa))), some (vI (nI pa)), some (vI (nI m)), some (vI (nI g)), x6] [] w = (52, [some (vR (cit k 0)), some (vI (nI p)), some (vI (nI (lvs c o (2 ^ ho c p) pa))), some (vI (nI pa)), some (vI (nI m)), some (vI (nI g)), x6], [vI (nI p * nI 8 + nI g)], w) := rfl
      refine Rn.at 5 e7 ?_
      rw [ei]
      refine Rn.al 60 rfl rfl rfl rfl (by omega) ?_
      rw [hv]
      refine Rn.cs 60 rfl rfl rfl rfl (Cl.jdk rfl rfl) (by decide) ?_
      rw [nJ_min (by omega) (by omega)]
      refine Rn.as 60 rfl rfl rfl rfl (by omega) ?_
      have hnw : wset w (cit k 8) (8 * p + g) (nI (min (stT c o (2 ^ ho c p) g pa) pa)) (cit k 0) = w (cit k 0) := wset_ne (cit_p (by decide))
      have hpw2 : PlIs (wset w (cit k 8) (8 * p + g) (nI (min (stT c o (2 ^ ho c p) g pa) pa))) k c := hpw.of (by rw [hnw]) (by rw [hnw]) (by rw [hnw]) (fun q h1 h2 => wset_ne (cit_p (by omega)))
      refine Rn.cv 60 rfl rfl rfl rfl rfl (sp_isOpen (o := o) (by rw [hnw]; exact how) (by omega) h8) (by decide) ?_
      refine Rn.if1 60 rfl rfl (fun h => ?_) (fun h => ?_)
      · dsimp only [tm_c2P] at h
        rw [bI_eq0] at h
        rw [h, cond_false] at h3
        rw [← Nat.or_zero m, ← nJ_or] at h3
        exact Rn.at 5 rfl h3
      · dsimp only [tm_c2P] at h
        rw [bI_eq0, Bool.not_eq_false] at h
        rw [h, cond_true, ← nJ_or] at h3
        refine Rn.cv 60 rfl rfl rfl rfl rfl (sp_endsOf hc hpw2 hgl) (by decide) ?_
        exact Rn.at 5 rfl h3

theorem sp_measureFor {w0 : Wd} {k : Fin 6} {c : Nat → Nat} {o p : Nat} (hc : PlOk c) (hp : PlIs w0 k c) (hop : w0 (cit k 0) 12 = nI o) (h8 : o < 256) (hpl : p < c 4) (hT : ∀ g, g < c 3 → w0 (cit k 8) (8 * p + g) = nI 100) : ∃ w', Cl 2 jC_measureFor [vR (cit k 0), vI (nI p)] w0 (none, w') ∧ (∀ t, t ≠ cit k 8 → w' t = w0 t) ∧ (∀ x, (∀ g, g < c 3 → x ≠ 8 * p + g) → w' (cit k 8) x = w0 (cit k 8) x) ∧ ∀ g, g < c 3 → w' (cit k 8) (8 * p + g) = nI (st c o p g) := by
  obtain ⟨b1, b2, b3, b4⟩ := hc.2.2.2.2 p hpl
  obtain ⟨a1, a2, a3, a4⟩ := hp.2.2.2.2 p hpl
  have hc4 := hc.2.2.1
  have hc3 := hc.2.1
  have hc0 := hc.1
  have key : ∀ n pa w x4 x5 x6, pa + n = c 0 → MfI c k o p w0 w pa 0 → ∃ w', MfI c k o p w0 w' (c 0) 0 ∧ Rn none 1 jC_measureFor (11, [some (vR (cit k 0)), some (vI (nI p)), some (vI (nI (lvs c o (2 ^ ho c p) pa))), some (vI (nI pa)), x4, x5, x6], [], w) (none, w') := by
    intro n
    induction n with
    | zero =>
      intro pa w x4 x5 x6 hpa hI
      obtain rfl : pa = c 0 := by omega
      refine ⟨w, hI, ?_⟩
      have hpw : w (cit k 0) 0 = nI (c 0) := by rw [hI.1 _ (cit_p (by decide))]; exact hp.1
      refine Rn.if2t 60 rfl rfl (by dsimp only [tm_c2P]; rw [hpw]; exact nI_le (Nat.le_refl _) (by omega)) ?_
      exact Rn.vr 60 rfl rfl rfl rfl
    | succ n ih =>
      intro pa w x4 x5 x6 hpa hI
      obtain ⟨w1, x6', hI1, h1⟩ := sp_mf_in (r := (none, w)) hc hp hop h8 hpl (pa := pa) (by omega) (c 3) 0 (lvs c o (2 ^ ho c p) pa) w x6 (by omega) hI
      have hI2 : MfI c k o p w0 w1 (pa + 1) 0 := by
        refine ⟨hI1.1, hI1.2.1, fun g hg => ?_⟩
        rw [hI1.2.2 g hg, if_pos hg, if_neg (by omega)]
      obtain ⟨w2, hI3, h2⟩ := ih (pa + 1) w1 (some (vI (nI (lvs c o (2 ^ ho c p) (pa + 1))))) (some (vI (nI (c 3)))) x6' (by omega) hI2
      refine ⟨w2, hI3, ?_⟩
      have hpw : w (cit k 0) 0 = nI (c 0) := by rw [hI.1 _ (cit_p (by decide))]; exact hp.1
      refine Rn.if2f 60 rfl rfl (by dsimp only [tm_c2P]; rw [hpw]; exact nI_ge (by omega) (by omega)) ?_
      refine Rn.at 4 rfl (h1 _ ?_)
      rw [nI_succ pa] at h2
      exact Rn.at 4 rfl h2
  obtain ⟨w', hI, h⟩ := key (c 0) 0 w0 none none none (by omega) ⟨fun _ _ => rfl, fun _ _ => rfl, fun g hg => by rw [hT g hg, if_neg (by omega)]; rfl⟩
  refine ⟨w', ?_, hI.1, hI.2.1, fun g hg => ?_⟩
  · refine Cl.of rfl rfl rfl (lc := [some (vR (cit k 0)), some (vI (nI p)), none, none, none, none, none]) rfl ?_
    refine Rn.al 60 rfl rfl rfl rfl (by omega) ?_
    rw [a2]
    rw [show lvs c o (2 ^ ho c p) 0 = 2 ^ ho c p from rfl, ← nJ_1shl (by omega)] at h
    exact Rn.at 4 rfl h
  · rw [hI.2.2 g hg, if_neg (by omega), st_eq hc o b2]
    rfl
/-- measured: the table holds for the gates that are open now -/
theorem sp_measure {w : Wd} {k : Fin 6} {c : Nat → Nat} {o : Nat} (hc : PlOk c) (hp : PlIs w k c) (hop : w (cit k 0) 12 = nI o) (h8 : o < 256) (hT : TbIs w k c) : ∃ w', Cl 3 jC_measure [vR (cit k 0)] w (none, w') ∧ (∀ t, t ≠ cit k 0 → t ≠ cit k 8 → w' t = w t) ∧ (∀ j, j ≠ 16 → w' (cit k 0) j = w (cit k 0) j) ∧ w' (cit k 0) 16 = nI o ∧ Tab w' k c o := by
  have hc4 := hc.2.2.1
  have hc3 := hc.2.1
  by_cases hm : w (cit k 0) 16 = nI o
  · refine ⟨w, ?_, fun _ _ _ => rfl, fun _ _ => rfl, hm, ?_⟩
    · refine Cl.of rfl rfl rfl (lc := [some (vR (cit k 0)), none]) rfl ?_
      refine Rn.if2f 60 rfl rfl (by dsimp only [tm_c2P]; rw [hm, hop]; exact fun z => z rfl) ?_
      exact Rn.vr 60 rfl rfl rfl rfl
    · rcases hT with h | ⟨mo, h1, h2, h3⟩
      · exact absurd (h.symm.trans hm) (nJ_m1 h8)
      · have e : mo = o := (nI_eq (by omega) (by omega)).mp (h2.symm.trans hm)
        subst e
        exact h3
  · have e0 : ∀ j, j ≠ 16 → fillW (wset w (cit k 0) 16 (nI o)) (cit k 8) 40 (nI 100) (cit k 0) j = w (cit k 0) j := fun j hj => by
      rw [fillW_ne (cit_p (by decide)), wset_k hj]
    have key : ∀ n p w1, p + n = c 4 → (∀ t, t ≠ cit k 0 → t ≠ cit k 8 → w1 t = w t) → (∀ j, j ≠ 16 → w1 (cit k 0) j = w (cit k 0) j) → w1 (cit k 0) 16 = nI o → (∀ q, q < p → ∀ g, g < c 3 → w1 (cit k 8) (8 * q + g) = nI (st c o q g)) → (∀ q, p ≤ q → q < c 4 → ∀ g, g < c 3 → w1 (cit k 8) (8 * q + g) = nI 100) → ∃ w', Rn none 2 jC_measure (31, [some (vR (cit k 0)), some (vI (nI p))], [], w1) (none, w') ∧ (∀ t, t ≠ cit k 0 → t ≠ cit k 8 → w' t = w t) ∧ (∀ j, j ≠ 16 → w' (cit k 0) j = w (cit k 0) j) ∧ w' (cit k 0) 16 = nI o ∧ Tab w' k c o := by
      intro n
      induction n with
      | zero =>
        intro p w1 hpn h1 h2 h3 h4 h5
        obtain rfl : p = c 4 := by omega
        refine ⟨w1, ?_, h1, h2, h3, h4⟩
        refine Rn.if2t 60 rfl rfl (by dsimp only [tm_c2P]; rw [h2 4 (by decide), hp.2.2.1]; exact nI_le (Nat.le_refl _) (by omega)) ?_
        exact Rn.vr 60 rfl rfl rfl rfl
      | succ n ih =>
        intro p w1 hpn h1 h2 h3 h4 h5
        have hpw : PlIs w1 k c := hp.of (h2 0 (by decide)) (h2 3 (by decide)) (h2 4 (by decide)) (fun q g1 g2 => h1 _ (cit_p (by omega)) (cit_p (by omega)))
        obtain ⟨w2, g1, g2, g3, g4⟩ := sp_measureFor hc hpw (by rw [h2 12 (by decide)]; exact hop) h8 (p := p) (by omega) (h5 p (Nat.le_refl _) (by omega))
        have gz : w2 (cit k 0) = w1 (cit k 0) := g2 _ (cit_p (by decide))
        obtain ⟨w', f1, f2, f3, f4, f5⟩ := ih (p + 1) w2 (by omega) (fun t a b => (g2 t b).trans (h1 t a b)) (fun j hj => by rw [gz]; exact h2 j hj) (by rw [gz]; exact h3) (fun q hq g hg => by
          by_cases e : q = p
          · subst e
            exact g4 g hg
          · rw [g3 _ (fun g' hg' => by omega)]
            exact h4 q (by omega) g hg) (fun q hq hq2 g hg => by
          rw [g3 _ (fun g' hg' => by omega)]
          exact h5 q (by omega) hq2 g hg)
        refine ⟨w', ?_, f2, f3, f4, f5⟩
        refine Rn.if2f 60 rfl rfl (by dsimp only [tm_c2P]; rw [h2 4 (by decide), hp.2.2.1]; exact nI_ge (by omega) (by omega)) ?_
        refine Rn.cv 60 rfl rfl rfl rfl rfl g1 (by decide) ?_
        rw [nI_succ p] at f1
        exact Rn.at 2 rfl f1
    obtain ⟨w', f1, f2⟩ := key (c 4) 0 (fillW (wset w (cit k 0) 16 (nI o)) (cit k 8) 40 (nI 100)) (by omega) (fun t a b => by rw [fillW_ne b, wset_ne a]) e0 (by rw [fillW_ne (cit_p (by decide)), wset_s]) (fun q hq => absurd hq (by omega)) (fun q _ hq g hg => fillW_lt (by omega))
    refine ⟨w', ?_, f2⟩
    refine Cl.of rfl rfl rfl (lc := [some (vR (cit k 0)), none]) rfl ?_
    refine Rn.if2t 60 rfl rfl (by dsimp only [tm_c2P]; rw [hop]; exact hm) ?_
    refine Rn.cs 60 rfl rfl rfl rfl (sp_fill (m := 40) rfl) (by decide) ?_
    rw [hop]
    exact Rn.at 2 rfl f1
end
section
/-! the class's city: votes, dawn, copies -/
theorem sp_stepsOf {w : Wd} {k : Fin 6} {c : Nat → Nat} {o p g : Nat} (hc : PlOk c) (hT : Tab w k c o) (hpl : p < c 4) (hg : g < c 3) : Cl 1 jC_stepsOf [vR (cit k 0), vI (nI p), vI (nI g)] w (some (vI (nI (st c o p g))), w) := by
  have hc4 := hc.2.2.1
  have hc3 := hc.2.1
  refine Cl.of rfl rfl rfl (lc := [some (vR (cit k 0)), some (vI (nI p)), some (vI (nI g))]) rfl ?_
  refine Rn.al (j := 8 * p + g) 60 rfl rfl rfl (by show nI p * nI 8 + nI g = _; rw [pk_mul, nI_add, Nat.mul_comm]) (by omega) ?_
  rw [hT p hpl g hg]
  exact Rn.ir 60 rfl rfl rfl rfl
theorem sp_wishFor {w : Wd} {k : Fin 6} {f : Nat} {p g : Nat} (hw : w (cit k 7) p = nI f) (hf : f < 256) (hp : p < 5) (hg : g < 8) : Cl 1 jC_wishFor [vR (cit k 0), vI (nI p), vI (nI g)] w (some (vI (bI (f.testBit g))), w) := by
  refine Cl.of rfl rfl rfl (lc := [some (vR (cit k 0)), some (vI (nI p)), some (vI (nI g))]) rfl ?_
  refine Rn.al 60 rfl rfl rfl rfl (by omega) ?_
  rw [hw]
  refine Rn.ir 60 rfl rfl rfl ?_
  dsimp only
  rw [nJ_bit (by omega) (by omega)]
theorem sp_voiceOf {w : Wd} {k : Fin 6} {c : Nat → Nat} {nr ti o sp dy : Nat} {wf : Nat → Nat} {p g : Nat} (hc : PlOk c) (hp : PlIs w k c) (hd : DyIs w k c nr ti o sp dy wf) (ho : DyOk c nr ti o sp wf) (hT : Tab w k c o) (hpl : p < c 4) (hg : g < c 3) : Cl 2 jC_voiceOf [vR (cit k 0), vI (nI p), vI (nI g)] w (some (vI (nI (vc c nr o p g))), w) := by
  obtain ⟨b1, b2, b3, b4⟩ := hc.2.2.2.2 p hpl
  obtain ⟨a1, a2, a3, a4⟩ := hp.2.2.2.2 p hpl
  obtain ⟨d1, d2, d3, d4, d5, d6⟩ := hd
  obtain ⟨o1, o2, o3, o4, o5⟩ := ho
  have hc4 := hc.2.2.1
  have hc3 := hc.2.1
  have hst : st c o p g ≤ 100 := stT_100 6
  refine Cl.of rfl rfl rfl (lc := [some (vR (cit k 0)), some (vI (nI p)), some (vI (nI g)), none]) rfl ?_
  refine Rn.al 60 rfl rfl rfl rfl (by omega) ?_
  rw [a1]
  refine Rn.if2 60 rfl rfl (fun h => ?_) (fun h => ?_)
  · dsimp only [tm_c2P] at h
    rw [nI_eq (by omega) (by decide)] at h
    refine Rn.cv 60 rfl rfl rfl rfl rfl (sp_stepsOf hc hT hpl hg) (by decide) ?_
    refine Rn.if2 60 rfl rfl (fun h2 => ?_) (fun h2 => ?_)
    · dsimp only [tm_c2P] at h2
      rw [d1, nJ_lt (by omega) (by omega)] at h2
      refine Rn.al 60 rfl rfl rfl rfl (by omega) ?_
      rw [a1]
      refine Rn.if2 60 rfl rfl (fun h3 => ?_) (fun h3 => ?_)
      · dsimp only [tm_c2P] at h3
        rw [nI_eq (by omega) (by decide)] at h3
        refine Rn.ir 60 rfl rfl rfl ?_
        unfold vc
        rw [if_neg h, if_neg (by omega), decide_eq_false h3]
        rfl
      · dsimp only [tm_c2P] at h3
        rw [nI_eq (by omega) (by decide), Classical.not_not] at h3
        refine Rn.cv 60 rfl rfl rfl rfl rfl (sp_isWalledIn hc hp d3 o3 hpl) (by decide) ?_
        refine Rn.if1 60 rfl rfl (fun h4 => ?_) (fun h4 => ?_)
        · dsimp only [tm_c2P] at h4
          rw [bI_eq0] at h4
          refine Rn.ir 60 rfl rfl rfl ?_
          unfold vc
          rw [if_neg h, if_neg (by omega), h4, Bool.and_false]
          rfl
        · dsimp only [tm_c2P] at h4
          rw [bI_eq0, Bool.not_eq_false] at h4
          refine Rn.ir 60 rfl rfl rfl ?_
          unfold vc
          rw [if_neg h, if_neg (by omega), h4, decide_eq_true h3]
          rfl
    · dsimp only [tm_c2P] at h2
      rw [d1, nJ_lt (by omega) (by omega)] at h2
      refine Rn.al 60 rfl rfl rfl rfl (by omega) ?_
      rw [a4]
      refine Rn.cs 60 rfl rfl rfl rfl (Cl.jdk rfl rfl) (by decide) ?_
      refine Rn.ir 60 rfl rfl rfl ?_
      rw [nJ_max0 (by omega) (by omega)]
      unfold vc
      rw [if_neg h, if_pos (by omega)]
  · dsimp only [tm_c2P] at h
    rw [nI_eq (by omega) (by decide), Classical.not_not] at h
    refine Rn.ir 60 rfl rfl rfl ?_
    unfold vc
    rw [if_pos h]
theorem sp_isForOpen {w : Wd} {k : Fin 6} {c : Nat → Nat} {nr ti o sp dy : Nat} {wf : Nat → Nat} {p g : Nat} (hc : PlOk c) (hp : PlIs w k c) (hd : DyIs w k c nr ti o sp dy wf) (ho : DyOk c nr ti o sp wf) (hpl : p < c 4) (hg : g < c 3) : Cl 2 jC_isForOpen [vR (cit k 0), vI (nI p), vI (nI g)] w (some (vI (bI (fo c o wf p g))), w) := by
  obtain ⟨b1, b2, b3, b4⟩ := hc.2.2.2.2 p hpl
  obtain ⟨a1, a2, a3, a4⟩ := hp.2.2.2.2 p hpl
  obtain ⟨d1, d2, d3, d4, d5, d6⟩ := hd
  obtain ⟨o1, o2, o3, o4, o5⟩ := ho
  have hc4 := hc.2.2.1
  have hc3 := hc.2.1
  refine Cl.of rfl rfl rfl (lc := [some (vR (cit k 0)), some (vI (nI p)), some (vI (nI g))]) rfl ?_
  refine Rn.al 60 rfl rfl rfl rfl (by omega) ?_
  rw [a1]
  refine Rn.if2 60 rfl rfl (fun h => ?_) (fun h => ?_)
  · dsimp only [tm_c2P] at h
    rw [nI_eq (by omega) (by decide)] at h
    refine Rn.cv 60 rfl rfl rfl rfl rfl (sp_wishFor (d6 p hpl) (o5 p hpl) (by omega) (by omega)) (by decide) ?_
    unfold fo
    rw [if_neg h]
    refine Rn.if2 60 rfl rfl (fun h2 => ?_) (fun h2 => ?_)
    · dsimp only [tm_c2P] at h2
      rw [bI_eq1] at h2
      refine Rn.zr 60 rfl rfl rfl (by decide) ?_
      rw [Bool.eq_false_iff.mpr h2]
      rfl
    · dsimp only [tm_c2P] at h2
      rw [bI_eq1, Classical.not_not] at h2
      refine Rn.zr 60 rfl rfl rfl (by decide) ?_
      rw [h2]
      rfl
  · dsimp only [tm_c2P] at h
    rw [nI_eq (by omega) (by decide), Classical.not_not] at h
    refine Rn.cv 60 rfl rfl rfl rfl rfl (sp_isOpen d3 (by omega) o3) (by decide) ?_
    refine Rn.zr 60 rfl rfl rfl (bI01 _) ?_
    unfold fo
    rw [if_pos h]
theorem vc_le {c : Nat → Nat} (hc : PlOk c) (nr o : Nat) {p : Nat} (hp : p < c 4) (g : Nat) : vc c nr o p g ≤ 20 := by
  obtain ⟨b1, b2, b3, b4⟩ := hc.2.2.2.2 p hp
  unfold vc
  split
  · omega
  · split
    · omega
    · cases decide (so c p = 2) && wd c o p <;> simp
theorem suN_le {c : Nat → Nat} (hc : PlOk c) (nr o : Nat) (wf : Nat → Nat) (g : Nat) (b : Bool) : ∀ n p a, p + n = c 4 → suN c nr o wf g b n p a ≤ a + 20 * n
  | 0, _, a, _ => Nat.le_refl _
  | n + 1, p, a, h => by
    unfold suN
    have h1 := suN_le hc nr o wf g b n (p + 1) (if fo c o wf p g = b then a + vc c nr o p g else a) (by omega)
    have h2 := vc_le hc nr o (p := p) (by omega) g
    have h3 : (if fo c o wf p g = b then a + vc c nr o p g else a) ≤ a + 20 := by split <;> omega
    omega
theorem su_le {c : Nat → Nat} (hc : PlOk c) (nr o : Nat) (wf : Nat → Nat) (g : Nat) (b : Bool) : su c nr o wf g b ≤ 100 := by
  have h := suN_le hc nr o wf g b (c 4) 0 0 (by omega)
  have h4 := hc.2.2.1
  unfold su
  omega
theorem bI_inj {a b : Bool} : bI a = bI b ↔ a = b := by cases a <;> cases b <;> decide
theorem sp_sumOf {w : Wd} {k : Fin 6} {c : Nat → Nat} {nr ti o sp dy : Nat} {wf : Nat → Nat} {g : Nat} (b : Bool) (hc : PlOk c) (hp : PlIs w k c) (hd : DyIs w k c nr ti o sp dy wf) (ho : DyOk c nr ti o sp wf) (hT : Tab w k c o) (hg : g < c 3) : Cl 3 jC_sumOf [vR (cit k 0), vI (nI g), vI (bI b)] w (some (vI (nI (su c nr o wf g b))), w) := by
  have hc4 := hc.2.2.1
  have hc3 := hc.2.1
  refine Cl.of rfl rfl rfl (lc := [some (vR (cit k 0)), some (vI (nI g)), some (vI (bI b)), none, none]) rfl ?_
  have key : ∀ n p a, p + n = c 4 → Rn none 2 jC_sumOf (5, [some (vR (cit k 0)), some (vI (nI g)), some (vI (bI b)), some (vI (nI a)), some (vI (nI p))], [], w) (some (vI (nI (suN c nr o wf g b n p a))), w) := by
    intro n
    induction n with
    | zero =>
      intro p a h1
      refine Rn.if2t 60 rfl rfl (by dsimp only [tm_c2P]; rw [hp.2.2.1]; exact nI_le (by omega) (by omega)) ?_
      exact Rn.ir 60 rfl rfl rfl rfl
    | succ n ih =>
      intro p a h1
      refine Rn.if2f 60 rfl rfl (by dsimp only [tm_c2P]; rw [hp.2.2.1]; exact nI_ge (by omega) (by omega)) ?_
      refine Rn.cv 60 rfl rfl rfl rfl rfl (sp_isForOpen hc hp hd ho (p := p) (by omega) hg) (by decide) ?_
      unfold suN
      refine Rn.if2 60 rfl rfl (fun h => ?_) (fun h => ?_)
      · dsimp only [tm_c2P] at h
        rw [bI_inj] at h
        rw [if_neg h]
        have ih := ih (p + 1) a (by omega)
        rw [nI_succ p] at ih
        exact Rn.at 2 rfl ih
      · dsimp only [tm_c2P] at h
        rw [bI_inj, Classical.not_not] at h
        rw [if_pos h]
        refine Rn.cv 60 rfl rfl rfl rfl rfl (sp_voiceOf hc hp hd ho hT (p := p) (by omega) hg) (by decide) ?_
        have ih := ih (p + 1) (a + vc c nr o p g) (by omega)
        rw [nI_succ p, ← nI_add] at ih
        exact Rn.at 4 rfl ih
  exact Rn.at 4 rfl (key (c 4) 0 0 (by omega))
theorem sp_isOpenBy {w : Wd} {k : Fin 6} {ti o g a b : Nat} (ht : w (cit k 0) 2 = nI ti) (hop : w (cit k 0) 12 = nI o) (hti : ti ≤ 2) (h8 : o < 256) (hg : g < 8) (ha : a ≤ 100) (hb : b ≤ 100) : Cl 2 jC_isOpenBy [vR (cit k 0), vI (nI g), vI (nI a), vI (nI b)] w (some (vI (bI (ob ti o g a b))), w) := by
  refine Cl.of rfl rfl rfl (lc := [some (vR (cit k 0)), some (vI (nI g)), some (vI (nI a)), some (vI (nI b))]) rfl ?_
  unfold ob
  refine Rn.if2 60 rfl rfl (fun h => ?_) (fun h => ?_)
  · dsimp only [tm_c2P] at h
    rw [nI_eq (by omega) (by omega)] at h
    rw [if_pos h]
    refine Rn.if2 60 rfl rfl (fun h2 => ?_) (fun h2 => ?_)
    · dsimp only [tm_c2P] at h2
      rw [ht, nI_eq (by omega) (by decide)] at h2
      refine Rn.zr 60 rfl rfl rfl (by decide) ?_
      rw [decide_eq_true h2]
      rfl
    · dsimp only [tm_c2P] at h2
      rw [ht, nI_eq (by omega) (by decide)] at h2
      rw [decide_eq_false h2, Bool.false_or]
      refine Rn.if2 60 rfl rfl (fun h3 => ?_) (fun h3 => ?_)
      · dsimp only [tm_c2P] at h3
        rw [ht, nI_eq (by omega) (by decide)] at h3
        refine Rn.zr 60 rfl rfl rfl (by decide) ?_
        rw [decide_eq_false h3]
        rfl
      · dsimp only [tm_c2P] at h3
        rw [ht, nI_eq (by omega) (by decide), Classical.not_not] at h3
        rw [decide_eq_true h3, Bool.true_and]
        refine Rn.cv 60 rfl rfl rfl rfl rfl (sp_isOpen hop hg h8) (by decide) ?_
        refine Rn.if1 60 rfl rfl (fun h4 => ?_) (fun h4 => ?_)
        · dsimp only [tm_c2P] at h4
          rw [bI_eq0] at h4
          refine Rn.zr 60 rfl rfl rfl (by decide) ?_
          rw [h4]
          rfl
        · dsimp only [tm_c2P] at h4
          rw [bI_eq0, Bool.not_eq_false] at h4
          refine Rn.zr 60 rfl rfl rfl (by decide) ?_
          rw [h4]
          rfl
  · dsimp only [tm_c2P] at h
    rw [nI_eq (by omega) (by omega)] at h
    rw [if_neg h]
    refine Rn.if2 60 rfl rfl (fun h2 => ?_) (fun h2 => ?_)
    · dsimp only [tm_c2P] at h2
      rw [nJ_le (by omega) (by omega)] at h2
      refine Rn.zr 60 rfl rfl rfl (by decide) ?_
      rw [decide_eq_false (by omega)]
      rfl
    · dsimp only [tm_c2P] at h2
      rw [nJ_le (by omega) (by omega)] at h2
      refine Rn.zr 60 rfl rfl rfl (by decide) ?_
      rw [decide_eq_true (by omega)]
      rfl
theorem sp_spendsVeto {w : Wd} {k : Fin 6} {c : Nat → Nat} {nr ti o sp dy : Nat} {wf : Nat → Nat} {g : Nat} (hc : PlOk c) (hp : PlIs w k c) (hd : DyIs w k c nr ti o sp dy wf) (ho : DyOk c nr ti o sp wf) (hT : Tab w k c o) (hg : g < c 3) : ∃ w', Cl 2 jC_spendsVeto [vR (cit k 0), vI (nI g)] w (some (vI (bI (vtN c nr o wf g sp (c 4) 0).isSome)), w') ∧ w' = (match vtN c nr o wf g sp (c 4) 0 with | some p => wset w (cit k 0) 13 (nI (sp ||| 2 ^ p)) | none => w) := by
  obtain ⟨d1, d2, d3, d4, d5, d6⟩ := id hd
  obtain ⟨o1, o2, o3, o4, o5⟩ := id ho
  have hc4 := hc.2.2.1
  have hc3 := hc.2.1
  refine ⟨_, ?_, rfl⟩
  refine Cl.of rfl rfl rfl (lc := [some (vR (cit k 0)), some (vI (nI g)), none, none]) rfl ?_
  have key : ∀ n p x3, p + n = c 4 → Rn none 1 jC_spendsVeto (2, [some (vR (cit k 0)), some (vI (nI g)), some (vI (nI p)), x3], [], w) (some (vI (bI (vtN c nr o wf g sp n p).isSome)), (match vtN c nr o wf g sp n p with | some p => wset w (cit k 0) 13 (nI (sp ||| 2 ^ p)) | none => w)) := by
    intro n
    induction n with
    | zero =>
      intro p x3 h1
      refine Rn.if2t 60 rfl rfl (by dsimp only [tm_c2P]; rw [hp.2.2.1]; exact nI_le (by omega) (by omega)) ?_
      exact Rn.zr 60 rfl rfl rfl (by decide) rfl
    | succ n ih =>
      intro p x3 h1
      have hpl : p < c 4 := by omega
      obtain ⟨a1, a2, a3, a4⟩ := hp.2.2.2.2 p hpl
      obtain ⟨b1, b2, b3, b4⟩ := hc.2.2.2.2 p hpl
      have hst : st c o p g ≤ 100 := stT_100 6
      have no : vto c nr o wf g sp p = false → ∀ b, Rn none 1 jC_spendsVeto (77, [some (vR (cit k 0)), some (vI (nI g)), some (vI (nI p)), some (vI (bI b))], [], w) (some (vI (bI (vtN c nr o wf g sp (n + 1) p).isSome)), (match vtN c nr o wf g sp (n + 1) p with | some p => wset w (cit k 0) 13 (nI (sp ||| 2 ^ p)) | none => w)) := by
        intro h b
        have ih := ih (p + 1) (some (vI (bI b))) (by omega)
        rw [nI_succ p] at ih
        unfold vtN
        rw [h, cond_false]
        exact Rn.at 2 rfl ih
      refine Rn.if2f 60 rfl rfl (by dsimp only [tm_c2P]; rw [hp.2.2.1]; exact nI_ge (by omega) (by omega)) ?_
      refine Rn.al 60 rfl rfl rfl rfl (by omega) ?_
      rw [a1]
      refine Rn.if2 60 rfl rfl (fun h => ?_) (fun h => ?_)
      · dsimp only [tm_c2P] at h
        rw [nI_eq (by omega) (by decide)] at h
        refine Rn.if1t 60 rfl rfl (show nI 0 = 0 from rfl) ?_
        exact no (by unfold vto; rw [decide_eq_false h]; rfl) false
      · dsimp only [tm_c2P] at h
        rw [nI_eq (by omega) (by decide), Classical.not_not] at h
        refine Rn.if1 60 rfl rfl (fun h2 => ?_) (fun h2 => ?_)
        · dsimp only [tm_c2P] at h2
          rw [d4, nJ_bit (by omega) (by omega), bI_eq0, Bool.not_eq_false] at h2
          refine Rn.if1t 60 rfl rfl (show nI 0 = 0 from rfl) ?_
          exact no (by unfold vto; rw [h2]; simp) false
        · dsimp only [tm_c2P] at h2
          rw [d4, nJ_bit (by omega) (by omega), bI_eq0, Classical.not_not] at h2
          refine Rn.if1f 60 rfl rfl (show ¬ nI 1 = 0 by decide) ?_
          refine Rn.cv 60 rfl rfl rfl rfl rfl (sp_stepsOf hc hT hpl hg) (by decide) ?_
          refine Rn.if2 60 rfl rfl (fun h3 => ?_) (fun h3 => ?_)
          · dsimp only [tm_c2P] at h3
            rw [d1, nJ_lt (by omega) (by omega)] at h3
            exact no (by unfold vto; rw [decide_eq_false (p := st c o p g ≤ nr) (by omega)]; simp) true
          · dsimp only [tm_c2P] at h3
            rw [d1, nJ_lt (by omega) (by omega)] at h3
            refine Rn.cv 60 rfl rfl rfl rfl rfl (sp_wishFor (d6 p hpl) (o5 p hpl) (by omega) (by omega)) (by decide) ?_
            refine Rn.if1 60 rfl rfl (fun h4 => ?_) (fun h4 => ?_)
            · dsimp only [tm_c2P] at h4
              rw [bI_eq0, Bool.not_eq_false] at h4
              exact no (by unfold vto; rw [h4]; simp) true
            · dsimp only [tm_c2P] at h4
              rw [bI_eq0, Classical.not_not] at h4
              refine Rn.zr 60 rfl rfl rfl (by decide) ?_
              have e : vto c nr o wf g sp p = true := by
                unfold vto
                rw [decide_eq_true h, h2, decide_eq_true (p := st c o p g ≤ nr) (by omega), h4]
                rfl
              unfold vtN
              rw [e, cond_true]
              dsimp only
              rw [d4, nJ_1shl (by omega), nJ_or]
              rfl
  exact Rn.at 2 rfl (key (c 4) 0 none (by omega))

def CiIs (w : Wd) (k : Fin 6) (c : Nat → Nat) (nr ti o sp dy : Nat) (wf : Nat → Nat) : Prop := PlIs w k c ∧ DyIs w k c nr ti o sp dy wf ∧ TbIs w k c
theorem vtN_lt {c : Nat → Nat} {nr o : Nat} {wf : Nat → Nat} {g sp : Nat} : ∀ n p q, vtN c nr o wf g sp n p = some q → p ≤ q ∧ q < p + n
  | 0, _, _, h => by cases h
  | n + 1, p, q, h => by
    unfold vtN at h
    cases hb : vto c nr o wf g sp p with
    | true => rw [hb] at h; cases h; omega
    | false =>
      rw [hb] at h
      have := vtN_lt n (p + 1) q h
      omega
theorem daS_ok {c : Nat → Nat} (hc : PlOk c) {nr ti o g th sp : Nat} {wf : Nat → Nat} (hg : g < c 3) (h1 : th < 256) (h2 : sp < 32) : (daS c nr ti wf o g th sp).1 < 256 ∧ (daS c nr ti wf o g th sp).2 < 32 := by
  have hc3 := hc.2.1
  have hc4 := hc.2.2.1
  unfold daS
  cases ob ti o g (su c nr o wf g true) (su c nr o wf g false) with
  | false => exact ⟨h1, h2⟩
  | true =>
    rw [cond_true]
    cases hv : vtN c nr o wf g sp (c 4) 0 with
    | some p =>
      have := vtN_lt _ _ _ hv
      exact ⟨h1, Nat.or_lt_two_pow (n := 5) h2 (Nat.pow_lt_pow_right (by decide) (by omega))⟩
    | none => exact ⟨Nat.or_lt_two_pow (n := 8) h1 (Nat.pow_lt_pow_right (by decide) (by omega)), h2⟩
theorem daN_ok {c : Nat → Nat} (hc : PlOk c) {nr ti o : Nat} {wf : Nat → Nat} : ∀ n g q, g + n = c 3 → q.1 < 256 → q.2 < 32 → (daN c nr ti wf o n g q).1 < 256 ∧ (daN c nr ti wf o n g q).2 < 32
  | 0, _, _, _, h1, h2 => ⟨h1, h2⟩
  | n + 1, g, q, hg, h1, h2 => by
    unfold daN
    have h := daS_ok hc (nr := nr) (ti := ti) (o := o) (wf := wf) (g := g) (by omega) h1 h2
    exact daN_ok hc n (g + 1) _ (by omega) h.1 h.2
theorem da_ok {c : Nat → Nat} (hc : PlOk c) {nr ti : Nat} {wf : Nat → Nat} {q : Nat × Nat} (h2 : q.2 < 32) : (da c nr ti wf q).1 < 256 ∧ (da c nr ti wf q).2 < 32 := daN_ok hc (c 3) 0 (0, q.2) (by omega) (by show 0 < 256; decide) h2
theorem Tab.of {w w' : Wd} {k : Fin 6} {c : Nat → Nat} {o : Nat} (h : Tab w k c o) (e : w' (cit k 8) = w (cit k 8)) : Tab w' k c o := fun p hp g hg => by rw [e]; exact h p hp g hg
theorem DyIs.of {w w' : Wd} {k : Fin 6} {c : Nat → Nat} {nr ti o sp dy : Nat} {wf : Nat → Nat} (h : DyIs w k c nr ti o sp dy wf) (h0 : ∀ j, j ≠ 16 → w' (cit k 0) j = w (cit k 0) j) (h7 : w' (cit k 7) = w (cit k 7)) : DyIs w' k c nr ti o sp dy wf := by
  obtain ⟨d1, d2, d3, d4, d5, d6⟩ := h
  exact ⟨(h0 1 (by decide)).trans d1, (h0 2 (by decide)).trans d2, (h0 12 (by decide)).trans d3, (h0 13 (by decide)).trans d4, (h0 14 (by decide)).trans d5, fun p hp => by rw [h7]; exact d6 p hp⟩
theorem sp_rise_lp {w1 : Wd} {k : Fin 6} {c : Nat → Nat} {nr ti o sp0 dy : Nat} {wf : Nat → Nat} (hc : PlOk c) (hp : PlIs w1 k c) (hd : DyIs w1 k c nr ti o sp0 dy wf) (ho : DyOk c nr ti o sp0 wf) (hT : Tab w1 k c o) : ∀ n g th sp w, g + n = c 3 → th < 256 → sp < 32 → (∀ t, t ≠ cit k 0 → w t = w1 t) → (∀ j, j ≠ 13 → w (cit k 0) j = w1 (cit k 0) j) → w (cit k 0) 13 = nI sp → ∃ w', Rn none 4 jC_rise (8, [some (vR (cit k 0)), some (vI (nI th)), some (vI (nI g))], [], w) (none, w') ∧ (∀ t, t ≠ cit k 0 → w' t = w1 t) ∧ (∀ j, j ≠ 12 → j ≠ 13 → j ≠ 14 → w' (cit k 0) j = w1 (cit k 0) j) ∧ w' (cit k 0) 12 = nI (daN c nr ti wf o n g (th, sp)).1 ∧ w' (cit k 0) 13 = nI (daN c nr ti wf o n g (th, sp)).2 ∧ w' (cit k 0) 14 = nI (dy + 1) := by
  have hc3 := hc.2.1
  obtain ⟨d1, d2, d3, d4, d5, d6⟩ := id hd
  obtain ⟨o1, o2, o3, o4, o5⟩ := id ho
  intro n
  induction n with
  | zero =>
    intro g th sp w hg hth hsp h1 h2 h3
    refine ⟨wset (wset w (cit k 0) 12 (nI th)) (cit k 0) 14 (nI dy + nI 1), ?_, fun t ht => ?_, fun j j1 j2 j3 => ?_, ?_, ?_, ?_⟩
    · refine Rn.if2t 60 rfl rfl (by dsimp only [tm_c2P]; rw [h2 3 (by decide), hp.2.1]; exact nI_le (by omega) (by omega)) ?_
      refine Rn.vr 60 rfl rfl rfl ?_
      dsimp only
      rw [wset_k (by decide), h2 14 (by decide), d5]
    · rw [wset_ne ht, wset_ne ht]
      exact h1 t ht
    · rw [wset_k j3, wset_k j1]
      exact h2 j j2
    · rw [wset_k (by decide), wset_s]
      rfl
    · rw [wset_k (by decide), wset_k (by decide), h3]
      rfl
    · rw [wset_s, nI_add]
  | succ n ih =>
    intro g th sp w hg hth hsp h1 h2 h3
    have hgl : g < c 3 := by omega
    have hpw : PlIs w k c := hp.of (h2 0 (by decide)) (h2 3 (by decide)) (h2 4 (by decide)) (fun q q1 q2 => h1 _ (cit_p (by omega)))
    have hdw : DyIs w k c nr ti o sp dy wf := ⟨(h2 1 (by decide)).trans d1, (h2 2 (by decide)).trans d2, (h2 12 (by decide)).trans d3, h3, (h2 14 (by decide)).trans d5, fun p hp => by rw [h1 _ (cit_p (by decide))]; exact d6 p hp⟩
    have how : DyOk c nr ti o sp wf := ⟨o1, o2, o3, hsp, o5⟩
    have hTw : Tab w k c o := hT.of (h1 _ (cit_p (by decide)))
    have hst := daS_ok hc (nr := nr) (ti := ti) (o := o) (wf := wf) hgl hth hsp
    have fin : ∀ w2, (∀ t, t ≠ cit k 0 → w2 t = w1 t) → (∀ j, j ≠ 13 → w2 (cit k 0) j = w1 (cit k 0) j) → w2 (cit k 0) 13 = nI (daS c nr ti wf o g th sp).2 → ∃ w', Rn none 4 jC_rise (50, [some (vR (cit k 0)), some (vI (nI (daS c nr ti wf o g th sp).1)), some (vI (nI g))], [], w2) (none, w') ∧ (∀ t, t ≠ cit k 0 → w' t = w1 t) ∧ (∀ j, j ≠ 12 → j ≠ 13 → j ≠ 14 → w' (cit k 0) j = w1 (cit k 0) j) ∧ w' (cit k 0) 12 = nI (daN c nr ti wf o (n + 1) g (th, sp)).1 ∧ w' (cit k 0) 13 = nI (daN c nr ti wf o (n + 1) g (th, sp)).2 ∧ w' (cit k 0) 14 = nI (dy + 1) := by
      intro w2 g1 g2 g3
      obtain ⟨w', f1, f2⟩ := ih (g + 1) _ _ w2 (by omega) hst.1 hst.2 g1 g2 g3
      refine ⟨w', ?_, f2⟩
      rw [nI_succ g] at f1
      exact Rn.at 2 rfl f1
    have st1 : ∀ {r}, Rn none 4 jC_rise (33, [some (vR (cit k 0)), some (vI (nI th)), some (vI (nI g))], [vI (bI (ob ti o g (su c nr o wf g true) (su c nr o wf g false)))], w) r → Rn none 4 jC_rise (8, [some (vR (cit k 0)), some (vI (nI th)), some (vI (nI g))], [], w) r := by
      intro r k1
      refine Rn.if2f 60 rfl rfl (by dsimp only [tm_c2P]; rw [hpw.2.1]; exact nI_ge hgl (by omega)) ?_
      refine Rn.cv 60 rfl rfl rfl rfl rfl (sp_sumOf true hc hpw hdw how hTw hgl) (by decide) ?_
      refine Rn.cv 60 rfl rfl rfl rfl rfl (sp_sumOf false hc hpw hdw how hTw hgl) (by decide) ?_
      refine Rn.cv 60 rfl rfl rfl rfl rfl (sp_isOpenBy hdw.2.1 hdw.2.2.1 o2 o3 (by omega) (su_le hc _ _ _ _ _) (su_le hc _ _ _ _ _)) (by decide) ?_
      exact k1
    cases hob : ob ti o g (su c nr o wf g true) (su c nr o wf g false) with
    | false =>
      have e : daS c nr ti wf o g th sp = (th, sp) := by unfold daS; rw [hob]; rfl
      rw [e] at fin
      obtain ⟨w', f1, f2⟩ := fin w h1 h2 h3
      refine ⟨w', st1 ?_, f2⟩
      rw [hob]
      exact Rn.if1t 60 rfl rfl bI_f0 f1
    | true =>
      obtain ⟨w2, g1, g2⟩ := sp_spendsVeto hc hpw hdw how hTw hgl
      cases hv : vtN c nr o wf g sp (c 4) 0 with
      | some p =>
        have e : daS c nr ti wf o g th sp = (th, sp ||| 2 ^ p) := by unfold daS; rw [hob, hv]; rfl
        rw [hv] at g1 g2
        dsimp only at g2
        subst g2
        rw [e] at fin
        obtain ⟨w', f1, f2⟩ := fin _ (fun t ht => (wset_ne ht).trans (h1 t ht)) (fun j hj => (wset_k hj).trans (h2 j hj)) wset_s
        refine ⟨w', st1 ?_, f2⟩
        rw [hob]
        refine Rn.if1f 60 rfl rfl bI_t0 ?_
        refine Rn.cv 60 rfl rfl rfl rfl rfl g1 (by decide) ?_
        exact Rn.if1t 60 rfl rfl bI_t0 f1
      | none =>
        have e : daS c nr ti wf o g th sp = (th ||| 2 ^ g, sp) := by unfold daS; rw [hob, hv]; rfl
        rw [hv] at g1 g2
        dsimp only at g2
        subst g2
        rw [e] at fin
        obtain ⟨w', f1, f2⟩ := fin w2 h1 h2 h3
        refine ⟨w', st1 ?_, f2⟩
        rw [hob]
        refine Rn.if1f 60 rfl rfl bI_t0 ?_
        refine Rn.cv 60 rfl rfl rfl rfl rfl g1 (by decide) ?_
        refine Rn.if1f 60 rfl rfl (fun z => z bI_f0) ?_
        dsimp only at f1
        rw [← nJ_or, ← nJ_1shl (by omega)] at f1
        exact Rn.at 6 rfl f1
theorem sp_rise {w : Wd} {k : Fin 6} {c : Nat → Nat} {nr ti o sp dy : Nat} {wf : Nat → Nat} (hc : PlOk c) (h : CiIs w k c nr ti o sp dy wf) (ho : DyOk c nr ti o sp wf) : ∃ w', Cl 5 jC_rise [vR (cit k 0)] w (none, w') ∧ Fr k w w' ∧ CiIs w' k c nr ti (da c nr ti wf (o, sp)).1 (da c nr ti wf (o, sp)).2 (dy + 1) wf := by
  obtain ⟨hp, hd, hT⟩ := h
  obtain ⟨o1, o2, o3, o4, o5⟩ := id ho
  obtain ⟨w1, f1, f2, f3, f4, f5⟩ := sp_measure hc hp hd.2.2.1 o3 hT
  have hp1 : PlIs w1 k c := hp.of (f3 0 (by decide)) (f3 3 (by decide)) (f3 4 (by decide)) (fun q q1 q2 => f2 _ (cit_p (by omega)) (cit_p (by omega)))
  have hd1 : DyIs w1 k c nr ti o sp dy wf := hd.of f3 (f2 _ (cit_p (by decide)) (cit_p (by decide)))
  obtain ⟨w2, g1, g2, g3, g4, g5, g6⟩ := sp_rise_lp hc hp1 hd1 ho f5 (c 3) 0 0 sp w1 (by omega) (by decide) o4 (fun _ _ => rfl) (fun _ _ => rfl) hd1.2.2.2.1
  refine ⟨w2, ?_, fun t ht => (g2 t (ht 0)).trans (f2 t (ht 0) (ht 8)), ?_, ?_, ?_⟩
  · refine Cl.of rfl rfl rfl (lc := [some (vR (cit k 0)), none, none]) rfl ?_
    refine Rn.cv 60 rfl rfl rfl rfl rfl f1 (by decide) ?_
    exact Rn.at 4 rfl g1
  · exact hp1.of (g3 0 (by decide) (by decide) (by decide)) (g3 3 (by decide) (by decide) (by decide)) (g3 4 (by decide) (by decide) (by decide)) (fun q q1 q2 => g2 _ (cit_p (by omega)))
  · exact ⟨(g3 1 (by decide) (by decide) (by decide)).trans hd1.1, (g3 2 (by decide) (by decide) (by decide)).trans hd1.2.1, g4, g5, g6, fun p hp => by rw [g2 _ (cit_p (by decide))]; exact hd1.2.2.2.2.2 p hp⟩
  · exact Or.inr ⟨o, o3, (g3 16 (by decide) (by decide) (by decide)).trans f4, f5.of (g2 _ (cit_p (by decide)))⟩
end
section
/-! copies of a city; a wish changed -/
def cpW (w : Wd) (s d : TA) (a b n : Nat) : Wd := fun t j => if t = d then va_cpy (w s) (w d) a b n j else w t j
theorem cpW_ne {w : Wd} {s d u : TA} {a b n : Nat} (h : u ≠ d) : cpW w s d a b n u = w u := by
  funext j
  unfold cpW
  rw [if_neg h]
theorem cpW_in {w : Wd} {s d : TA} {n j : Nat} (h : j < n) : cpW w s d 0 0 n d j = w s j := by
  unfold cpW va_cpy
  rw [if_pos rfl, if_pos (by omega)]
  congr 1
  omega
theorem cl_copy {w : Wd} {s d : TA} {a b n n0 n1 : Nat} (hs : tm_arr s = some (0, n0)) (hd : tm_arr d = some (0, n1)) (h0 : a + n ≤ n0) (h1 : b + n ≤ n1) : Cl 1 999 [vR s, vI (nI a), vR d, vI (nI b), vI (nI n)] w (none, cpW w s d a b n) := by
  have m0 := tm_arr_le hs
  have m1 := tm_arr_le hd
  refine Cl.jdk rfl ?_
  simp only [tm_jdk, hs, hd]
  rw [if_pos ⟨nI_pos (by omega), nI_pos (by omega), nI_pos (by omega), by rw [nI_clamp (by omega), nI_clamp (by omega)]; exact h0, by rw [nI_clamp (by omega), nI_clamp (by omega)]; exact h1⟩, nI_clamp (by omega), nI_clamp (by omega), nI_clamp (by omega)]
  rfl
theorem cit_k {k k' : Fin 6} {p q : Nat} (h : k ≠ k') : cit k p ≠ cit k' q := fun e => h (by cases e; rfl)
theorem sp_beginAs {w : Wd} {k k' : Fin 6} {c : Nat → Nat} {nr ti o sp dy : Nat} {wf : Nat → Nat} (hk : k ≠ k') (hc : PlOk c) (hp : PlIs w k c) (hT : TbIs w k c) (hd : DyIs w k' c nr ti o sp dy wf) : ∃ w', Cl 2 jC_beginAs [vR (cit k 0), vR (cit k' 0)] w (none, w') ∧ Fr k w w' ∧ CiIs w' k c nr ti o sp dy wf := by
  have hc4 := hc.2.2.1
  obtain ⟨d1, d2, d3, d4, d5, d6⟩ := hd
  have ne : ∀ {p q : Nat}, cit k' p ≠ cit k q := fun z => hk (by cases z; rfl)
  refine ⟨cpW (wset (wset (wset (wset (wset w (cit k 0) 1 (nI nr)) (cit k 0) 2 (nI ti)) (cit k 0) 12 (nI o)) (cit k 0) 13 (nI sp)) (cit k 0) 14 (nI dy)) (cit k' 7) (cit k 7) 0 0 5, ?_, fun t ht => ?_, ?_, ?_, ?_⟩
  · refine Cl.of rfl rfl rfl (lc := [some (vR (cit k 0)), some (vR (cit k' 0))]) rfl ?_
    refine Rn.cs 60 rfl rfl rfl rfl (cl_copy (n0 := 5) (n1 := 5) rfl rfl (by decide) (by decide)) (by decide) ?_
    refine Rn.vr 60 rfl rfl rfl ?_
    have hne : ∀ (w : Wd) (j : Nat) (x : Int32), wset w (cit k 0) j x (cit k' 0) = w (cit k' 0) := fun _ _ _ => wset_ne ne
    simp only [hne, d1, d2, d3, d4, d5]
  · rw [cpW_ne (ht 7), wset_ne (ht 0), wset_ne (ht 0), wset_ne (ht 0), wset_ne (ht 0), wset_ne (ht 0)]
  · refine hp.of ?_ ?_ ?_ (fun q q1 q2 => ?_)
    · rw [cpW_ne (cit_p (by decide)), wset_k (by decide), wset_k (by decide), wset_k (by decide), wset_k (by decide), wset_k (by decide)]
    · rw [cpW_ne (cit_p (by decide)), wset_k (by decide), wset_k (by decide), wset_k (by decide), wset_k (by decide), wset_k (by decide)]
    · rw [cpW_ne (cit_p (by decide)), wset_k (by decide), wset_k (by decide), wset_k (by decide), wset_k (by decide), wset_k (by decide)]
    · rw [cpW_ne (cit_p (by omega)), wset_ne (cit_p (by omega)), wset_ne (cit_p (by omega)), wset_ne (cit_p (by omega)), wset_ne (cit_p (by omega)), wset_ne (cit_p (by omega))]
  · refine ⟨?_, ?_, ?_, ?_, ?_, fun p hp => ?_⟩
    · rw [cpW_ne (cit_p (by decide)), wset_k (by decide), wset_k (by decide), wset_k (by decide), wset_k (by decide), wset_s]
    · rw [cpW_ne (cit_p (by decide)), wset_k (by decide), wset_k (by decide), wset_k (by decide), wset_s]
    · rw [cpW_ne (cit_p (by decide)), wset_k (by decide), wset_k (by decide), wset_s]
    · rw [cpW_ne (cit_p (by decide)), wset_k (by decide), wset_s]
    · rw [cpW_ne (cit_p (by decide)), wset_s]
    · rw [cpW_in (by omega), wset_ne ne, wset_ne ne, wset_ne ne, wset_ne ne, wset_ne ne]
      exact d6 p hp
  · have e16 : cpW (wset (wset (wset (wset (wset w (cit k 0) 1 (nI nr)) (cit k 0) 2 (nI ti)) (cit k 0) 12 (nI o)) (cit k 0) 13 (nI sp)) (cit k 0) 14 (nI dy)) (cit k' 7) (cit k 7) 0 0 5 (cit k 0) 16 = w (cit k 0) 16 := by
      rw [cpW_ne (cit_p (by decide)), wset_k (by decide), wset_k (by decide), wset_k (by decide), wset_k (by decide), wset_k (by decide)]
    rcases hT with h | ⟨mo, h1, h2, h3⟩
    · exact Or.inl (e16.trans h)
    · refine Or.inr ⟨mo, h1, e16.trans h2, h3.of ?_⟩
      rw [cpW_ne (cit_p (by decide)), wset_ne (cit_p (by decide)), wset_ne (cit_p (by decide)), wset_ne (cit_p (by decide)), wset_ne (cit_p (by decide)), wset_ne (cit_p (by decide))]
/-- the plan, as become lays it -/
def bcW (w : Wd) (k k' : Fin 6) (c : Nat → Nat) : Wd := wset (cpW (cpW (cpW (cpW (cpW (cpW (wset (wset (wset w (cit k 0) 0 (nI (c 0))) (cit k 0) 3 (nI (c 3))) (cit k 0) 4 (nI (c 4))) (cit k' 1) (cit k 1) 0 0 8) (cit k' 2) (cit k 2) 0 0 8) (cit k' 3) (cit k 3) 0 0 5) (cit k' 4) (cit k 4) 0 0 5) (cit k' 5) (cit k 5) 0 0 5) (cit k' 6) (cit k 6) 0 0 5) (cit k 0) 16 (-(nI 1))
theorem sp_become {w : Wd} {k k' : Fin 6} {c : Nat → Nat} {nr ti o sp dy : Nat} {wf : Nat → Nat} (hk : k ≠ k') (hc : PlOk c) (hp : PlIs w k' c) (hd : DyIs w k' c nr ti o sp dy wf) : ∃ w', Cl 3 jC_become [vR (cit k 0), vR (cit k' 0)] w (none, w') ∧ Fr k w w' ∧ CiIs w' k c nr ti o sp dy wf := by
  have hc4 := hc.2.2.1
  have hc3 := hc.2.1
  have ne : ∀ {p q : Nat}, cit k' p ≠ cit k q := fun z => hk (by cases z; rfl)
  have fr : Fr k w (bcW w k k' c) := fun t ht => by
    unfold bcW
    rw [wset_ne (ht 0), cpW_ne (ht 6), cpW_ne (ht 5), cpW_ne (ht 4), cpW_ne (ht 3), cpW_ne (ht 2), cpW_ne (ht 1), wset_ne (ht 0), wset_ne (ht 0), wset_ne (ht 0)]
  have p0 : ∀ j, bcW w k k' c (cit k 0) j = if j = 16 then -(nI 1) else if j = 4 then nI (c 4) else if j = 3 then nI (c 3) else if j = 0 then nI (c 0) else w (cit k 0) j := by
    intro j
    unfold bcW
    by_cases h16 : j = 16
    · subst h16
      rw [wset_s, if_pos rfl]
    · rw [wset_k h16, if_neg h16, cpW_ne (cit_p (by decide)), cpW_ne (cit_p (by decide)), cpW_ne (cit_p (by decide)), cpW_ne (cit_p (by decide)), cpW_ne (cit_p (by decide)), cpW_ne (cit_p (by decide))]
      by_cases h4 : j = 4
      · subst h4
        rw [wset_s, if_pos rfl]
      · rw [wset_k h4, if_neg h4]
        by_cases h3 : j = 3
        · subst h3
          rw [wset_s, if_pos rfl]
        · rw [wset_k h3, if_neg h3]
          by_cases h0 : j = 0
          · subst h0
            rw [wset_s, if_pos rfl]
          · rw [wset_k h0, if_neg h0]
  have src : ∀ p, w (cit k' p) = w (cit k' p) := fun _ => rfl
  have hpl : PlIs (bcW w k k' c) k c := by
    obtain ⟨a1, a2, a3, a4, a5⟩ := hp
    refine ⟨p0 0, p0 3, p0 4, fun g hg => ?_, fun p hp => ?_⟩
    · obtain ⟨e1, e2⟩ := a4 g hg
      constructor
      · unfold bcW
        rw [wset_ne (cit_p (by decide)), cpW_ne (cit_p (by decide)), cpW_ne (cit_p (by decide)), cpW_ne (cit_p (by decide)), cpW_ne (cit_p (by decide)), cpW_ne (cit_p (by decide)), cpW_in (by omega), wset_ne ne, wset_ne ne, wset_ne ne]
        exact e1
      · unfold bcW
        rw [wset_ne (cit_p (by decide)), cpW_ne (cit_p (by decide)), cpW_ne (cit_p (by decide)), cpW_ne (cit_p (by decide)), cpW_ne (cit_p (by decide)), cpW_in (by omega), cpW_ne ne, wset_ne ne, wset_ne ne, wset_ne ne]
        exact e2
    · obtain ⟨e1, e2, e3, e4⟩ := a5 p hp
      refine ⟨?_, ?_, ?_, ?_⟩
      · unfold bcW
        rw [wset_ne (cit_p (by decide)), cpW_ne (cit_p (by decide)), cpW_ne (cit_p (by decide)), cpW_ne (cit_p (by decide)), cpW_in (by omega), cpW_ne ne, cpW_ne ne, wset_ne ne, wset_ne ne, wset_ne ne]
        exact e1
      · unfold bcW
        rw [wset_ne (cit_p (by decide)), cpW_ne (cit_p (by decide)), cpW_ne (cit_p (by decide)), cpW_in (by omega), cpW_ne ne, cpW_ne ne, cpW_ne ne, wset_ne ne, wset_ne ne, wset_ne ne]
        exact e2
      · unfold bcW
        rw [wset_ne (cit_p (by decide)), cpW_ne (cit_p (by decide)), cpW_in (by omega), cpW_ne ne, cpW_ne ne, cpW_ne ne, cpW_ne ne, wset_ne ne, wset_ne ne, wset_ne ne]
        exact e3
      · unfold bcW
        rw [wset_ne (cit_p (by decide)), cpW_in (by omega), cpW_ne ne, cpW_ne ne, cpW_ne ne, cpW_ne ne, cpW_ne ne, wset_ne ne, wset_ne ne, wset_ne ne]
        exact e4
  have hkd : ∀ p, bcW w k k' c (cit k' p) = w (cit k' p) := fun p => fr _ (fun q => ne)
  have hdd : DyIs (bcW w k k' c) k' c nr ti o sp dy wf := hd.of (fun j _ => by rw [hkd]) (hkd 7)
  obtain ⟨w', g1, g2, g3⟩ := sp_beginAs hk hc hpl (Or.inl (p0 16)) hdd
  refine ⟨w', ?_, fr.tr g2, g3⟩
  refine Cl.of rfl rfl rfl (lc := [some (vR (cit k 0)), some (vR (cit k' 0))]) rfl ?_
  refine Rn.cs 60 rfl rfl rfl rfl (cl_copy (n0 := 8) (n1 := 8) rfl rfl (by decide) (by decide)) (by decide) ?_
  refine Rn.cs 60 rfl rfl rfl rfl (cl_copy (n0 := 8) (n1 := 8) rfl rfl (by decide) (by decide)) (by decide) ?_
  refine Rn.cs 60 rfl rfl rfl rfl (cl_copy (n0 := 5) (n1 := 5) rfl rfl (by decide) (by decide)) (by decide) ?_
  refine Rn.cs 60 rfl rfl rfl rfl (cl_copy (n0 := 5) (n1 := 5) rfl rfl (by decide) (by decide)) (by decide) ?_
  refine Rn.cs 60 rfl rfl rfl rfl (cl_copy (n0 := 5) (n1 := 5) rfl rfl (by decide) (by decide)) (by decide) ?_
  refine Rn.cs 60 rfl rfl rfl rfl (cl_copy (n0 := 5) (n1 := 5) rfl rfl (by decide) (by decide)) (by decide) ?_
  have hne : ∀ (w : Wd) (j : Nat) (x : Int32), wset w (cit k 0) j x (cit k' 0) = w (cit k' 0) := fun _ _ _ => wset_ne ne
  rw [hne, hne, hne, hp.1, hp.2.1, hp.2.2.1]
  refine Rn.cv 60 rfl rfl rfl rfl rfl g1 (by decide) ?_
  exact Rn.vr 60 rfl rfl rfl rfl
def sbN (f g : Nat) (b : Bool) : Nat := (f &&& (255 ^^^ 2 ^ g)) ||| bif b then 2 ^ g else 0
def upW (wf : Nat → Nat) (p v : Nat) : Nat → Nat := fun q => if q = p then v else wf q
theorem nJ_clr : ∀ g, g < 8 → ∀ f, f < 256 → nI f &&& (nI (2 ^ g) ^^^ -(nI 1)) = nI (f &&& (255 ^^^ 2 ^ g)) := by decide +kernel
theorem sbN_lt {f g : Nat} {b : Bool} (hf : f < 256) (hg : g < 8) : sbN f g b < 256 := by
  unfold sbN
  refine Nat.or_lt_two_pow (n := 8) (Nat.lt_of_le_of_lt Nat.and_le_left hf) ?_
  cases b
  · show 0 < 2 ^ 8
    decide
  · exact Nat.pow_lt_pow_right (by decide) hg
theorem sp_wishSo {w : Wd} {k : Fin 6} {c : Nat → Nat} {nr ti o sp dy p g : Nat} {wf : Nat → Nat} (b : Bool) (hc : PlOk c) (h : CiIs w k c nr ti o sp dy wf) (hw : wf p < 256) (hp : p < c 4) (hg : g < 8) : ∃ w', Cl 1 jC_wishSo [vR (cit k 0), vI (nI p), vI (nI g), vI (bI b)] w (none, w') ∧ Fr k w w' ∧ CiIs w' k c nr ti o sp dy (upW wf p (sbN (wf p) g b)) := by
  have hc4 := hc.2.2.1
  obtain ⟨h1, ⟨d1, d2, d3, d4, d5, d6⟩, h3⟩ := h
  refine ⟨wset w (cit k 7) p (nI (sbN (wf p) g b)), ?_, fun t ht => wset_ne (ht 7), ?_, ?_, ?_⟩
  · refine Cl.of rfl rfl rfl (lc := [some (vR (cit k 0)), some (vI (nI p)), some (vI (nI g)), some (vI (bI b))]) rfl ?_
    refine Rn.al 60 rfl rfl rfl rfl (by omega) ?_
    rw [d6 p hp]
    refine Rn.as 60 rfl rfl rfl rfl (by omega) ?_
    refine Rn.vr 60 rfl rfl rfl ?_
    dsimp only
    rw [nJ_1shl (by omega), nJ_clr g hg _ hw]
    congr 2
    unfold sbN
    rw [← nJ_or]
    congr 1
    cases b
    · rw [bI_f, nJ_shl (by omega) (by rw [Nat.zero_mul]; decide), Nat.zero_mul]
      rfl
    · rw [bI_t, nJ_1shl (by omega)]
      rfl
  · exact h1.of (by rw [wset_ne (cit_p (by decide))]) (by rw [wset_ne (cit_p (by decide))]) (by rw [wset_ne (cit_p (by decide))]) (fun q q1 q2 => wset_ne (cit_p (by omega)))
  · refine ⟨by rw [wset_ne (cit_p (by decide))]; exact d1, by rw [wset_ne (cit_p (by decide))]; exact d2, by rw [wset_ne (cit_p (by decide))]; exact d3, by rw [wset_ne (cit_p (by decide))]; exact d4, by rw [wset_ne (cit_p (by decide))]; exact d5, fun q hq => ?_⟩
    unfold upW
    by_cases e : q = p
    · subst e
      rw [wset_s, if_pos rfl]
    · rw [wset_k e, if_neg e]
      exact d6 q hq
  · rcases h3 with z | ⟨mo, z1, z2, z3⟩
    · exact Or.inl (by rw [wset_ne (cit_p (by decide))]; exact z)
    · exact Or.inr ⟨mo, z1, by rw [wset_ne (cit_p (by decide))]; exact z2, z3.of (wset_ne (cit_p (by decide)))⟩
theorem sp_isLike {w : Wd} {k k' : Fin 6} {o sp o' sp' : Nat} (h1 : w (cit k 0) 12 = nI o) (h2 : w (cit k 0) 13 = nI sp) (h3 : w (cit k' 0) 12 = nI o') (h4 : w (cit k' 0) 13 = nI sp') (l1 : o < 256) (l2 : sp < 32) (l3 : o' < 256) (l4 : sp' < 32) : Cl 1 jC_isLike [vR (cit k 0), vR (cit k' 0)] w (some (vI (bI (decide ((o, sp) = (o', sp'))))), w) := by
  refine Cl.of rfl rfl rfl (lc := [some (vR (cit k 0)), some (vR (cit k' 0))]) rfl ?_
  refine Rn.if2 60 rfl rfl (fun h => ?_) (fun h => ?_)
  · dsimp only [tm_c2P] at h
    rw [h1, h3, nI_eq (by omega) (by omega)] at h
    refine Rn.zr 60 rfl rfl rfl (by decide) ?_
    rw [decide_eq_false (fun z => h (by cases z; rfl))]
    rfl
  · dsimp only [tm_c2P] at h
    rw [h1, h3, nI_eq (by omega) (by omega), Classical.not_not] at h
    refine Rn.if2 60 rfl rfl (fun h5 => ?_) (fun h5 => ?_)
    · dsimp only [tm_c2P] at h5
      rw [h2, h4, nI_eq (by omega) (by omega)] at h5
      refine Rn.zr 60 rfl rfl rfl (by decide) ?_
      rw [decide_eq_false (fun z => h5 (by cases z; rfl))]
      rfl
    · dsimp only [tm_c2P] at h5
      rw [h2, h4, nI_eq (by omega) (by omega), Classical.not_not] at h5
      refine Rn.zr 60 rfl rfl rfl (by decide) ?_
      rw [decide_eq_true (by rw [h, h5])]
      rfl
end
section
/-! foretold: counting bits, dawns ahead, the fewest, swaps, wishes, laws, sets, sold -/
def us_ (x y : Int32) : Int32 := (x.toUInt32 >>> (y.toUInt32 &&& Int32.toUInt32 31)).toInt32
def bcE (x : Int32) : Int32 :=
  let a := x - (us_ x (nI 1) &&& nI 1431655765)
  let b := (a &&& nI 858993459) + (us_ a (nI 2) &&& nI 858993459)
  let d := (b + us_ b (nI 4)) &&& nI 252645135
  let f := d + us_ d (nI 8)
  let g := f + us_ f (nI 16)
  g &&& nI 63
def cnt (n : Nat) : Nat := (n.testBit 0).toNat + (n.testBit 1).toNat + (n.testBit 2).toNat + (n.testBit 3).toNat + (n.testBit 4).toNat + (n.testBit 5).toNat + (n.testBit 6).toNat + (n.testBit 7).toNat
theorem bcE_ok : ∀ n, n < 256 → bcE (nI n) = nI (cnt n) := by decide +kernel
theorem sp_bitCount {w : Wd} {n : Nat} (h : n < 256) : Cl 1 jI_bitCount [vI (nI n)] w (some (vI (nI (cnt n))), w) := by
  refine Cl.of rfl rfl rfl (lc := [some (vI (nI n))]) rfl ?_
  refine Rn.ir 80 rfl rfl rfl ?_
  rw [← bcE_ok n h]
  rfl
theorem cnt_le (n : Nat) : cnt n ≤ 8 := by
  have hb : ∀ b : Bool, b.toNat ≤ 1 := fun b => by cases b <;> decide
  have := hb (n.testBit 0); have := hb (n.testBit 1); have := hb (n.testBit 2); have := hb (n.testBit 3); have := hb (n.testBit 4); have := hb (n.testBit 5); have := hb (n.testBit 6); have := hb (n.testBit 7)
  unfold cnt
  omega
/-- n dawns -/
def daI (c : Nat → Nat) (nr ti : Nat) (wf : Nat → Nat) : Nat → Nat × Nat → Nat × Nat
  | 0, q => q
  | n + 1, q => daI c nr ti wf n (da c nr ti wf q)
theorem DyOk.da {c : Nat → Nat} (hc : PlOk c) {nr ti o sp : Nat} {wf : Nat → Nat} (h : DyOk c nr ti o sp wf) : DyOk c nr ti (da c nr ti wf (o, sp)).1 (da c nr ti wf (o, sp)).2 wf := by
  have h2 := da_ok hc (nr := nr) (ti := ti) (wf := wf) (q := (o, sp)) h.2.2.2.1
  exact ⟨h.1, h.2.1, h2.1, h2.2, h.2.2.2.2⟩
theorem CiIs.fr {w w' : Wd} {k : Fin 6} {c : Nat → Nat} {nr ti o sp dy : Nat} {wf : Nat → Nat} (h : CiIs w k c nr ti o sp dy wf) (e : ∀ p, w' (cit k p) = w (cit k p)) : CiIs w' k c nr ti o sp dy wf := by
  obtain ⟨h1, h2, h3⟩ := h
  refine ⟨h1.of (by rw [e]) (by rw [e]) (by rw [e]) (fun p _ _ => e p), h2.of (fun j _ => by rw [e]) (e 7), ?_⟩
  rcases h3 with z | ⟨mo, z1, z2, z3⟩
  · exact Or.inl (by rw [e]; exact z)
  · exact Or.inr ⟨mo, z1, by rw [e]; exact z2, z3.of (e 8)⟩
theorem Fr.cit {k k' : Fin 6} {w w' : Wd} (h : Fr k w w') (hk : k' ≠ k) (p : Nat) : w' (cit k' p) = w (cit k' p) := h _ (fun q => cit_k hk)
/-- the town that a foretelling starts from -/
def Now (w : Wd) (c : Nat → Nat) (nr ti o sp dy : Nat) (wf : Nat → Nat) : Prop := PlIs w 0 c ∧ DyIs w 0 c nr ti o sp dy wf
theorem Now.fr {w w' : Wd} {c : Nat → Nat} {nr ti o sp dy : Nat} {wf : Nat → Nat} (h : Now w c nr ti o sp dy wf) (e : ∀ p, w' (cit 0 p) = w (cit 0 p)) : Now w' c nr ti o sp dy wf := ⟨h.1.of (by rw [e]) (by rw [e]) (by rw [e]) (fun p _ _ => e p), h.2.of (fun j _ => by rw [e]) (e 7)⟩
/-- dawns of the trial (the loops of behind, staysSo, gladBy) -/
theorem sp_rises {w : Wd} {k : Fin 6} {c : Nat → Nat} {nr ti o sp dy : Nat} {wf : Nat → Nat} (hc : PlOk c) (h : CiIs w k c nr ti o sp dy wf) (ho : DyOk c nr ti o sp wf) {J d pc : Nat} {r0 : TA} (lcf : Nat → Lc) (n m : Nat) (i : Nat) (hi : i + n = m) (hm : m ≤ 100000)
    (step : ∀ (i : Nat) (w1 w2 : Wd) (r : Rs), i < m → Cl 5 jC_rise [vR (cit k 0)] w1 (none, w2) → Rn none d J (pc, lcf (i + 1), [], w2) r → Rn none d J (pc, lcf i, [], w1) r) : ∃ w', Fr k w w' ∧ CiIs w' k c nr ti (daI c nr ti wf n (o, sp)).1 (daI c nr ti wf n (o, sp)).2 (dy + n) wf ∧ DyOk c nr ti (daI c nr ti wf n (o, sp)).1 (daI c nr ti wf n (o, sp)).2 wf ∧ ∀ r, Rn none d J (pc, lcf m, [], w') r → Rn none d J (pc, lcf i, [], w) r := by
  induction n generalizing w o sp dy i with
  | zero =>
    obtain rfl : i = m := by omega
    exact ⟨w, Fr.rf, h, ho, fun r k1 => k1⟩
  | succ n ih =>
    obtain ⟨w1, g1, g2, g3⟩ := sp_rise hc h ho
    obtain ⟨w2, f1, f2, f3, f4⟩ := ih g3 (ho.da hc) (i + 1) (by omega)
    refine ⟨w2, g2.tr f1, ?_, f3, fun r k1 => step i w w1 r (by omega) g1 (f4 r k1)⟩
    rw [show dy + (n + 1) = dy + 1 + n by omega]
    exact f2
theorem sp_behind {w : Wd} {c : Nat → Nat} {nr ti o sp dy : Nat} {wf : Nat → Nat} (hc : PlOk c) (h : Now w c nr ti o sp dy wf) (ho : DyOk c nr ti o sp wf) {n : Nat} (hn : n ≤ 100) : ∃ w', Cl 6 jS_behind [vR (sg 10), vR (cit 0 0), vI (nI n)] w (some (vR (cit 4 0)), w') ∧ Fr 4 w w' ∧ CiIs w' 4 c nr ti (daI c nr ti wf n (o, sp)).1 (daI c nr ti wf n (o, sp)).2 (dy + n) wf ∧ DyOk c nr ti (daI c nr ti wf n (o, sp)).1 (daI c nr ti wf n (o, sp)).2 wf := by
  obtain ⟨w1, f1, f2, f3⟩ := sp_become (k := 4) (k' := 0) (by decide) hc h.1 h.2
  obtain ⟨w2, g1, g2, g3, g4⟩ := sp_rises hc f3 ho (J := jS_behind) (d := 5) (pc := 10) (r0 := sg 0) (fun i => [some (vR (sg 10)), some (vR (cit 0 0)), some (vI (nI n)), some (vI (nI i))]) n n 0 (by omega) (by omega) (fun i w1 w2 r hi hc k1 => by
    refine Rn.if2f 60 rfl rfl (nI_ge hi (by omega)) ?_
    refine Rn.cv 60 rfl rfl rfl rfl rfl hc (by decide) ?_
    rw [nI_succ i] at k1
    exact Rn.at 2 rfl k1)
  refine ⟨w2, ?_, f2.tr g1, g2, g3⟩
  refine Cl.of rfl rfl rfl (lc := [some (vR (sg 10)), some (vR (cit 0 0)), some (vI (nI n)), none]) rfl ?_
  refine Rn.cv 60 rfl rfl rfl rfl rfl f1 (by decide) ?_
  refine Rn.at 2 rfl (g4 _ ?_)
  refine Rn.if2t 60 rfl rfl (nI_le (Nat.le_refl _) (by omega)) ?_
  exact Rn.ar 60 rfl rfl rfl rfl
def wfS (wf : Nat → Nat) (set g : Nat) (b : Bool) (n : Nat) : Nat → Nat := fun q => if q < n ∧ set.testBit q = true then sbN (wf q) g b else wf q
def soK (c : Nat → Nat) (nr ti : Nat) (wf : Nat → Nat) (g : Nat) (b : Bool) : Nat → Nat × Nat → Bool
  | 0, _ => true
  | n + 1, q => if (da c nr ti wf q).1.testBit g = b then soK c nr ti wf g b n (da c nr ti wf q) else false
theorem DyIs.wf {w : Wd} {k : Fin 6} {c : Nat → Nat} {nr ti o sp dy : Nat} {wf wf' : Nat → Nat} (h : DyIs w k c nr ti o sp dy wf) (e : ∀ p, p < c 4 → wf p = wf' p) : DyIs w k c nr ti o sp dy wf' := ⟨h.1, h.2.1, h.2.2.1, h.2.2.2.1, h.2.2.2.2.1, fun p hp => by rw [← e p hp]; exact h.2.2.2.2.2 p hp⟩
theorem CiIs.wf {w : Wd} {k : Fin 6} {c : Nat → Nat} {nr ti o sp dy : Nat} {wf wf' : Nat → Nat} (h : CiIs w k c nr ti o sp dy wf) (e : ∀ p, p < c 4 → wf p = wf' p) : CiIs w k c nr ti o sp dy wf' := ⟨h.1, h.2.1.wf e, h.2.2⟩
theorem sp_staysSo {w : Wd} {c : Nat → Nat} {nr ti o sp dy dy0 nr0 ti0 o0 sp0 : Nat} {wf wf0 : Nat → Nat} (hc : PlOk c) (h : Now w c nr ti o sp dy wf) (ht : CiIs w 4 c nr0 ti0 o0 sp0 dy0 wf0) (ho : DyOk c nr ti o sp wf) {set g n : Nat} (b : Bool) (hs : set < 32) (hg : g < c 3) (hn : n ≤ 10) : ∃ w' nr1 ti1 o1 sp1 dy1 wf1, Cl 6 jS_staysSo [vR (sg 10), vR (cit 0 0), vI (nI set), vI (nI g), vI (bI b), vI (nI n)] w (some (vI (bI (soK c nr ti (wfS wf set g b (c 4)) g b n (o, sp)))), w') ∧ Fr 4 w w' ∧ CiIs w' 4 c nr1 ti1 o1 sp1 dy1 wf1 := by
  have hc4 := hc.2.2.1
  have hc3 := hc.2.1
  obtain ⟨w1, f1, f2, f3⟩ := sp_beginAs (k := 4) (k' := 0) (by decide) hc ht.1 ht.2.2 h.2
  have hlen : ∀ {p : Nat} {w2 : Wd}, Fr 4 w w2 → w2 (cit 0 0) 4 = nI (c 4) := fun hf => by rw [hf.cit (by decide)]; exact h.1.2.2.1
  have key : ∀ m p w2, p + m = c 4 → Fr 4 w w2 → CiIs w2 4 c nr ti o sp dy (wfS wf set g b p) → ∃ w3, Fr 4 w w3 ∧ CiIs w3 4 c nr ti o sp dy (wfS wf set g b (c 4)) ∧ ∀ r, Rn none 5 jS_staysSo (48, [some (vR (sg 10)), some (vR (cit 0 0)), some (vI (nI set)), some (vI (nI g)), some (vI (bI b)), some (vI (nI n)), some (vI (nI (c 4)))], [], w3) r → Rn none 5 jS_staysSo (11, [some (vR (sg 10)), some (vR (cit 0 0)), some (vI (nI set)), some (vI (nI g)), some (vI (bI b)), some (vI (nI n)), some (vI (nI p))], [], w2) r := by
    intro m
    induction m with
    | zero =>
      intro p w2 hp hf hci
      obtain rfl : p = c 4 := by omega
      refine ⟨w2, hf, hci, fun r k1 => ?_⟩
      exact Rn.if2t 60 rfl rfl (by dsimp only [tm_c2P]; rw [hlen (p := 0) hf]; exact nI_le (Nat.le_refl _) (by omega)) k1
    | succ m ih =>
      intro p w2 hp hf hci
      have hpl : p < c 4 := by omega
      have e0 : wfS wf set g b p p = wf p := by unfold wfS; rw [if_neg (by omega)]
      cases hb : set.testBit p with
      | false =>
        obtain ⟨w3, g1, g2, g3⟩ := ih (p + 1) w2 (by omega) hf (hci.wf (fun q hq => by
          unfold wfS
          by_cases e : q = p
          · subst e
            rw [if_neg (by omega), if_neg (by rw [hb]; exact fun z => by cases z.2)]
          · by_cases e2 : q < p
            · simp [e2, show q < p + 1 by omega]
            · simp [e2, show ¬ q < p + 1 by omega]))
        refine ⟨w3, g1, g2, fun r k1 => ?_⟩
        refine Rn.if2f 60 rfl rfl (by dsimp only [tm_c2P]; rw [hlen (p := 0) hf]; exact nI_ge hpl (by omega)) ?_
        refine Rn.if2t 60 rfl rfl (by dsimp only [tm_c2P]; rw [nJ_bit (by omega) (by omega), hb]; decide) ?_
        have k2 := g3 r k1
        rw [nI_succ p] at k2
        exact Rn.at 2 rfl k2
      | true =>
        obtain ⟨w4, i1, i2, i3⟩ := sp_wishSo b hc hci (p := p) (g := g) (by rw [e0]; exact ho.2.2.2.2 p hpl) hpl (by omega)
        obtain ⟨w3, g1, g2, g3⟩ := ih (p + 1) w4 (by omega) (hf.tr i2) (i3.wf (fun q hq => by
          unfold upW wfS
          by_cases e : q = p
          · subst e
            simp [hb]
          · by_cases e2 : q < p
            · simp [e, e2, show q < p + 1 by omega]
            · simp [e, e2, show ¬ q < p + 1 by omega]))
        refine ⟨w3, g1, g2, fun r k1 => ?_⟩
        refine Rn.if2f 60 rfl rfl (by dsimp only [tm_c2P]; rw [hlen (p := 0) hf]; exact nI_ge hpl (by omega)) ?_
        refine Rn.if2f 60 rfl rfl (by dsimp only [tm_c2P]; rw [nJ_bit (by omega) (by omega), hb]; decide) ?_
        refine Rn.cv 60 rfl rfl rfl rfl rfl i1 (by decide) ?_
        have k2 := g3 r k1
        rw [nI_succ p] at k2
        exact Rn.at 2 rfl k2
  obtain ⟨w3, g1, g2, g3⟩ := key (c 4) 0 w1 (by omega) f2 (f3.wf (fun q hq => by unfold wfS; rw [if_neg (by omega)]))
  have hw3 : DyOk c nr ti o sp (wfS wf set g b (c 4)) := ⟨ho.1, ho.2.1, ho.2.2.1, ho.2.2.2.1, fun p hp => by
    unfold wfS
    split
    · exact sbN_lt (ho.2.2.2.2 p hp) (by omega)
    · exact ho.2.2.2.2 p hp⟩
  have key2 : ∀ m i w4 o sp dy, i + m = n → Fr 4 w w4 → CiIs w4 4 c nr ti o sp dy (wfS wf set g b (c 4)) → DyOk c nr ti o sp (wfS wf set g b (c 4)) → ∃ w5 nr1 ti1 o1 sp1 dy1 wf1, Fr 4 w w5 ∧ CiIs w5 4 c nr1 ti1 o1 sp1 dy1 wf1 ∧ Rn none 5 jS_staysSo (51, [some (vR (sg 10)), some (vR (cit 0 0)), some (vI (nI set)), some (vI (nI g)), some (vI (bI b)), some (vI (nI n)), some (vI (nI i))], [], w4) (some (vI (bI (soK c nr ti (wfS wf set g b (c 4)) g b m (o, sp)))), w5) := by
    intro m
    induction m with
    | zero =>
      intro i w4 o sp dy hi hf hci hdo
      refine ⟨w4, nr, ti, o, sp, dy, _, hf, hci, ?_⟩
      refine Rn.if2t 60 rfl rfl (nI_le (by omega) (by omega)) ?_
      exact Rn.zr 60 rfl rfl rfl (by decide) rfl
    | succ m ih =>
      intro i w4 o sp dy hi hf hci hdo
      obtain ⟨w5, j1, j2, j3⟩ := sp_rise hc hci hdo
      have hd2 := hdo.da hc
      have hbit : ∀ {x : Int32}, w5 (cit 4 0) 12 >>> (nI g &&& 31) &&& nI 1 = bI ((da c nr ti (wfS wf set g b (c 4)) (o, sp)).1.testBit g) := by
        intro _
        rw [j3.2.1.2.2.1, nJ_bit (by have := hd2.2.2.1; omega) (by omega)]
      by_cases hb : (da c nr ti (wfS wf set g b (c 4)) (o, sp)).1.testBit g = b
      · obtain ⟨w6, nr1, ti1, o1, sp1, dy1, wf1, l1, l2, l3⟩ := ih (i + 1) w5 _ _ _ (by omega) (hf.tr j2) j3 hd2
        refine ⟨w6, nr1, ti1, o1, sp1, dy1, wf1, l1, l2, ?_⟩
        refine Rn.if2f 60 rfl rfl (nI_ge (by omega) (by omega)) ?_
        refine Rn.cv 60 rfl rfl rfl rfl rfl j1 (by decide) ?_
        refine Rn.if2t 60 rfl rfl (by dsimp only [tm_c2P]; rw [hbit (x := 0), hb]) ?_
        unfold soK
        rw [if_pos hb]
        rw [nI_succ i] at l3
        exact Rn.at 2 rfl l3
      · refine ⟨w5, nr, ti, _, _, _, _, hf.tr j2, j3, ?_⟩
        refine Rn.if2f 60 rfl rfl (nI_ge (by omega) (by omega)) ?_
        refine Rn.cv 60 rfl rfl rfl rfl rfl j1 (by decide) ?_
        refine Rn.if2f 60 rfl rfl (by dsimp only [tm_c2P]; rw [hbit (x := 0), bI_inj]; exact hb) ?_
        unfold soK
        rw [if_neg hb]
        exact Rn.zr 60 rfl rfl rfl (by decide) rfl
  obtain ⟨w5, nr1, ti1, o1, sp1, dy1, wf1, l1, l2, l3⟩ := key2 n 0 w3 o sp dy (by omega) g1 g2 hw3
  refine ⟨w5, nr1, ti1, o1, sp1, dy1, wf1, ?_, l1, l2⟩
  refine Cl.of rfl rfl rfl (lc := [some (vR (sg 10)), some (vR (cit 0 0)), some (vI (nI set)), some (vI (nI g)), some (vI (bI b)), some (vI (nI n)), none]) rfl ?_
  refine Rn.cv 60 rfl rfl rfl rfl rfl f1 (by decide) ?_
  refine Rn.at 2 rfl (g3 _ ?_)
  exact Rn.at 2 rfl l3
end
section
/-! foretold: the fewest, swaps, wishes, laws, sets, sold -/
/-- what a foretelling may leave behind: the trial is some city of the same plan -/
def Tri (w : Wd) (c : Nat → Nat) : Prop := ∃ nr ti o sp dy wf, CiIs w 4 c nr ti o sp dy wf
def feQ (a : Option Nat) (s : Nat) : Bool := match a with
  | none => true
  | some f => decide (cnt s < cnt f)
def feN (t : Nat → Bool) : Nat → Nat → Option Nat → Option Nat
  | 0, _, a => a
  | n + 1, s, a => feN t n (s + 1) (if feQ a s && t s then some s else a)
def feI (a : Option Nat) : Int32 := match a with
  | none => -(nI 1000000)
  | some f => nI f
def feL (a : Option Nat) : Nat := match a with
  | none => 6
  | some f => cnt f
theorem cnt5 : ∀ n, n < 32 → cnt n ≤ 5 := by decide +kernel
theorem sp_fewest {w : Wd} {c : Nat → Nat} {nr ti o sp dy : Nat} {wf : Nat → Nat} (hc : PlOk c) (h : Now w c nr ti o sp dy wf) (ho : DyOk c nr ti o sp wf) {g n : Nat} (b : Bool) (hg : g < c 3) (hn : n ≤ 10) : ∃ w', Cl 7 jS_fewest [vR (sg 10), vR (cit 0 0), vI (nI g), vI (bI b), vI (nI n)] w (some (vI (feI (feN (fun s => soK c nr ti (wfS wf s g b (c 4)) g b n (o, sp)) (2 ^ c 4) 0 none))), w') ∧ Fr 4 w w' := by
  have hc4 := hc.2.2.1
  have hc3 := hc.2.1
  have hp4 : 2 ^ c 4 ≤ 32 := Nat.pow_le_pow_right (n := 2) (by decide) hc4
  obtain ⟨w1, f1, f2, f3⟩ := sp_become (k := 4) (k' := 0) (by decide) hc h.1 h.2
  have key : ∀ m s a w2 x8, s + m = 2 ^ c 4 → (∀ f, a = some f → f < 32) → Fr 4 w w2 → Tri w2 c → ∃ w', Fr 4 w w' ∧ Rn none 6 jS_fewest (19, [some (vR (sg 10)), some (vR (cit 0 0)), some (vI (nI g)), some (vI (bI b)), some (vI (nI n)), some (vI (feI a)), some (vI (nI (feL a))), some (vI (nI s)), x8], [], w2) (some (vI (feI (feN (fun s => soK c nr ti (wfS wf s g b (c 4)) g b n (o, sp)) m s a))), w') := by
    intro m
    induction m with
    | zero =>
      intro s a w2 x8 hs ha hf ht
      refine ⟨w2, hf, ?_⟩
      have hp : w2 (cit 0 0) 4 = nI (c 4) := by rw [hf.cit (by decide)]; exact h.1.2.2.1
      refine Rn.if2t 60 rfl rfl (by dsimp only [tm_c2P]; rw [hp, nJ_1shl (by omega)]; exact nI_le (by omega) (by omega)) ?_
      exact Rn.ir 60 rfl rfl rfl rfl
    | succ m ih =>
      intro s a w2 x8 hs ha hf ht
      have hp : w2 (cit 0 0) 4 = nI (c 4) := by rw [hf.cit (by decide)]; exact h.1.2.2.1
      have hL : feL a ≤ 8 := by cases a with
        | none => decide
        | some f => exact cnt_le f
      have hcs := cnt5 s (by omega)
      have st1 : ∀ {r}, Rn none 6 jS_fewest (37, [some (vR (sg 10)), some (vR (cit 0 0)), some (vI (nI g)), some (vI (bI b)), some (vI (nI n)), some (vI (feI a)), some (vI (nI (feL a))), some (vI (nI s)), some (vI (nI (cnt s)))], [], w2) r → Rn none 6 jS_fewest (19, [some (vR (sg 10)), some (vR (cit 0 0)), some (vI (nI g)), some (vI (bI b)), some (vI (nI n)), some (vI (feI a)), some (vI (nI (feL a))), some (vI (nI s)), x8], [], w2) r := by
        intro r k1
        refine Rn.if2f 60 rfl rfl (by dsimp only [tm_c2P]; rw [hp, nJ_1shl (by omega)]; exact nI_ge (by omega) (by omega)) ?_
        refine Rn.cs 60 rfl rfl rfl rfl (sp_bitCount (by omega)) (by decide) ?_
        exact Rn.at 1 rfl k1
      have hmt : feQ a s = decide (cnt s < feL a) := by
        cases a with
        | none => exact (decide_eq_true (by show cnt s < 6; omega)).symm
        | some f => rfl
      by_cases hlt : cnt s < feL a
      · obtain ⟨w3, nr1, ti1, o1, sp1, dy1, wf1, g1, g2, g3⟩ := sp_staysSo (dy := dy) hc (h.fr (fun p => hf.cit (by decide) p)) ht.choose_spec.choose_spec.choose_spec.choose_spec.choose_spec.choose_spec ho (set := s) (g := g) (n := n) b (by omega) hg hn
        cases hso : soK c nr ti (wfS wf s g b (c 4)) g b n (o, sp) with
        | false =>
          obtain ⟨w', i1, i2⟩ := ih (s + 1) a w3 (some (vI (nI (cnt s)))) (by omega) ha (hf.tr g2) ⟨nr1, ti1, o1, sp1, dy1, wf1, g3⟩
          refine ⟨w', i1, st1 ?_⟩
          refine Rn.if2f 60 rfl rfl (nI_ge hlt (by omega)) ?_
          refine Rn.cv 60 rfl rfl rfl rfl rfl g1 (by decide) ?_
          rw [hso]
          refine Rn.if1t 60 rfl rfl bI_f0 ?_
          unfold feN
          rw [hso, Bool.and_false, if_neg (fun z => by cases z)]
          rw [nI_succ s] at i2
          exact Rn.at 2 rfl i2
        | true =>
          obtain ⟨w', i1, i2⟩ := ih (s + 1) (some s) w3 (some (vI (nI (cnt s)))) (by omega) (fun f hf => by cases hf; omega) (hf.tr g2) ⟨nr1, ti1, o1, sp1, dy1, wf1, g3⟩
          refine ⟨w', i1, st1 ?_⟩
          refine Rn.if2f 60 rfl rfl (nI_ge hlt (by omega)) ?_
          refine Rn.cv 60 rfl rfl rfl rfl rfl g1 (by decide) ?_
          rw [hso]
          refine Rn.if1f 60 rfl rfl bI_t0 ?_
          unfold feN
          rw [hso, Bool.and_true, hmt, decide_eq_true hlt, if_pos rfl]
          rw [nI_succ s] at i2
          exact Rn.at 6 rfl i2
      · obtain ⟨w', i1, i2⟩ := ih (s + 1) a w2 (some (vI (nI (cnt s)))) (by omega) ha hf ht
        refine ⟨w', i1, st1 ?_⟩
        refine Rn.if2t 60 rfl rfl (nI_le (by omega) (by omega)) ?_
        unfold feN
        rw [hmt, decide_eq_false hlt, Bool.false_and, if_neg (fun z => by cases z)]
        rw [nI_succ s] at i2
        exact Rn.at 2 rfl i2
  obtain ⟨w', i1, i2⟩ := key (2 ^ c 4) 0 none w1 none (by omega) (fun f hf => by cases hf) f2 ⟨_, _, _, _, _, _, f3⟩
  refine ⟨w', ?_, i1⟩
  refine Cl.of rfl rfl rfl (lc := [some (vR (sg 10)), some (vR (cit 0 0)), some (vI (nI g)), some (vI (bI b)), some (vI (nI n)), none, none, none, none]) rfl ?_
  refine Rn.cv 60 rfl rfl rfl rfl rfl f1 (by decide) ?_
  exact Rn.at 6 rfl i2
def agl (c : Nat → Nat) (o a b : Nat) : Bool := gl c o a && gl c o b
theorem sp_areGlad {w : Wd} {c : Nat → Nat} {nr ti o sp dy : Nat} {wf : Nat → Nat} (hc : PlOk c) (h : CiIs w 4 c nr ti o sp dy wf) (h8 : o < 256) {a b : Nat} (ha : a < c 4) (hb : b < c 4) : Cl 4 jS_areGlad [vR (sg 10), vI (nI a), vI (nI b)] w (some (vI (bI (agl c o a b))), w) := by
  refine Cl.of rfl rfl rfl (lc := [some (vR (sg 10)), some (vI (nI a)), some (vI (nI b))]) rfl ?_
  refine Rn.cv 60 rfl rfl rfl rfl rfl (sp_isGlad hc h.1 h.2.1.2.2.1 h8 ha) (by decide) ?_
  unfold agl
  cases gl c o a with
  | false =>
    refine Rn.if1t 60 rfl rfl bI_f0 ?_
    exact Rn.zr 60 rfl rfl rfl (by decide) rfl
  | true =>
    refine Rn.if1f 60 rfl rfl bI_t0 ?_
    refine Rn.cv 60 rfl rfl rfl rfl rfl (sp_isGlad hc h.1 h.2.1.2.2.1 h8 hb) (by decide) ?_
    cases gl c o b with
    | false =>
      refine Rn.if1t 60 rfl rfl bI_f0 ?_
      exact Rn.zr 60 rfl rfl rfl (by decide) rfl
    | true =>
      refine Rn.if1f 60 rfl rfl bI_t0 ?_
      exact Rn.zr 60 rfl rfl rfl (by decide) rfl
/-- the wishes of a swap -/
def wfX (wf : Nat → Nat) (a b one two : Nat) : Nat → Nat := upW (upW wf a (sbN (wf a) one ((wf b).testBit one))) b (sbN (wf b) two ((wf a).testBit two))
def swh (c : Nat → Nat) (nr ti : Nat) (wf : Nat → Nat) (q : Nat × Nat) (a b one two : Nat) : Bool := agl c (da c nr ti (wfX wf a b one two) q).1 a b
theorem sp_swapHelps {w : Wd} {c : Nat → Nat} {nr ti o sp dy : Nat} {wf : Nat → Nat} (hc : PlOk c) (h : Now w c nr ti o sp dy wf) (ht : Tri w c) (ho : DyOk c nr ti o sp wf) {a b one two : Nat} (ha : a < c 4) (hb : b < c 4) (hab : a ≠ b) (h1 : one < c 3) (h2 : two < c 3) : ∃ w', Cl 6 jS_swapHelps [vR (sg 10), vR (cit 0 0), vI (nI a), vI (nI b), vI (nI one), vI (nI two)] w (some (vI (bI (swh c nr ti wf (o, sp) a b one two))), w') ∧ Fr 4 w w' ∧ Tri w' c := by
  have hc4 := hc.2.2.1
  have hc3 := hc.2.1
  obtain ⟨nr0, ti0, o0, sp0, dy0, wf0, ht⟩ := ht
  obtain ⟨w1, f1, f2, f3⟩ := sp_beginAs (k := 4) (k' := 0) (by decide) hc ht.1 ht.2.2 h.2
  have n1 := h.fr (fun p => f2.cit (k' := 0) (by decide) p)
  obtain ⟨w2, g1, g2, g3⟩ := sp_wishSo ((wf b).testBit one) hc f3 (p := a) (g := one) (ho.2.2.2.2 a ha) ha (by omega)
  have n2 := n1.fr (fun p => g2.cit (k' := 0) (by decide) p)
  have eb : upW wf a (sbN (wf a) one ((wf b).testBit one)) b = wf b := by unfold upW; rw [if_neg (Ne.symm hab)]
  obtain ⟨w3, i1, i2, i3⟩ := sp_wishSo ((wf a).testBit two) hc g3 (p := b) (g := two) (by rw [eb]; exact ho.2.2.2.2 b hb) hb (by omega)
  rw [eb] at i3
  have hd : DyOk c nr ti o sp (wfX wf a b one two) := ⟨ho.1, ho.2.1, ho.2.2.1, ho.2.2.2.1, fun p hp => by
    unfold wfX upW
    split
    · exact sbN_lt (ho.2.2.2.2 b hb) (by omega)
    · split
      · exact sbN_lt (ho.2.2.2.2 a ha) (by omega)
      · exact ho.2.2.2.2 p hp⟩
  obtain ⟨w4, j1, j2, j3⟩ := sp_rise hc i3 hd
  have hd2 := hd.da hc
  refine ⟨w4, ?_, ((f2.tr g2).tr i2).tr j2, ⟨_, _, _, _, _, _, j3⟩⟩
  refine Cl.of rfl rfl rfl (lc := [some (vR (sg 10)), some (vR (cit 0 0)), some (vI (nI a)), some (vI (nI b)), some (vI (nI one)), some (vI (nI two))]) rfl ?_
  refine Rn.cv 60 rfl rfl rfl rfl rfl f1 (by decide) ?_
  refine Rn.cv 60 rfl rfl rfl rfl rfl (sp_wishFor (k := 0) (n1.2.2.2.2.2.2 b hb) (ho.2.2.2.2 b hb) (by omega) (by omega)) (by decide) ?_
  refine Rn.cv 60 rfl rfl rfl rfl rfl g1 (by decide) ?_
  refine Rn.cv 60 rfl rfl rfl rfl rfl (sp_wishFor (k := 0) (n2.2.2.2.2.2.2 a ha) (ho.2.2.2.2 a ha) (by omega) (by omega)) (by decide) ?_
  refine Rn.cv 60 rfl rfl rfl rfl rfl i1 (by decide) ?_
  refine Rn.cv 60 rfl rfl rfl rfl rfl j1 (by decide) ?_
  refine Rn.cv 60 rfl rfl rfl rfl rfl (sp_areGlad hc j3 hd2.2.2.1 ha hb) (by decide) ?_
  exact Rn.zr 60 rfl rfl rfl (bI01 _) rfl
def swJ (t : Nat → Nat → Bool) (one : Nat) : Nat → Nat → Option Nat
  | 0, _ => none
  | n + 1, two => if one ≠ two ∧ t one two = true then some (8 * one + two) else swJ t one n (two + 1)
def swI (t : Nat → Nat → Bool) (G : Nat) : Nat → Nat → Option Nat
  | 0, _ => none
  | n + 1, one => match swJ t one G 0 with
    | some x => some x
    | none => swI t G n (one + 1)
theorem sp_firstSwap {w : Wd} {c : Nat → Nat} {nr ti o sp dy : Nat} {wf : Nat → Nat} (hc : PlOk c) (h : Now w c nr ti o sp dy wf) (ho : DyOk c nr ti o sp wf) {a b : Nat} (ha : a < c 4) (hb : b < c 4) (hab : a ≠ b) : ∃ w', Cl 7 jS_firstSwap [vR (sg 10), vR (cit 0 0), vI (nI a), vI (nI b)] w (some (vI (feI (if agl c (da c nr ti wf (o, sp)).1 a b then none else swI (swh c nr ti wf (o, sp) a b) (c 3) (c 3) 0))), w') ∧ Fr 4 w w' := by
  have hc4 := hc.2.2.1
  have hc3 := hc.2.1
  obtain ⟨w1, f1, f2, f3⟩ := sp_become (k := 4) (k' := 0) (by decide) hc h.1 h.2
  obtain ⟨w2, g1, g2, g3⟩ := sp_rise hc f3 ho
  have hd2 := ho.da hc
  have hen : ∀ {r}, Rn none 6 jS_firstSwap (21, [some (vR (sg 10)), some (vR (cit 0 0)), some (vI (nI a)), some (vI (nI b)), none, none], [vI (bI (agl c (da c nr ti wf (o, sp)).1 a b))], w2) r → Cl 7 jS_firstSwap [vR (sg 10), vR (cit 0 0), vI (nI a), vI (nI b)] w r := by
    intro r k1
    refine Cl.of rfl rfl rfl (lc := [some (vR (sg 10)), some (vR (cit 0 0)), some (vI (nI a)), some (vI (nI b)), none, none]) rfl ?_
    refine Rn.cv 60 rfl rfl rfl rfl rfl f1 (by decide) ?_
    refine Rn.cv 60 rfl rfl rfl rfl rfl g1 (by decide) ?_
    refine Rn.cv 60 rfl rfl rfl rfl rfl (sp_areGlad hc g3 hd2.2.2.1 ha hb) (by decide) ?_
    exact k1
  cases hg : agl c (da c nr ti wf (o, sp)).1 a b with
  | true =>
    refine ⟨w2, hen ?_, f2.tr g2⟩
    rw [hg]
    refine Rn.if1f 60 rfl rfl bI_t0 ?_
    exact Rn.ir 60 rfl rfl rfl rfl
  | false =>
    have hG : ∀ {w3 : Wd}, Fr 4 w w3 → w3 (cit 0 0) 3 = nI (c 3) := fun hf => by rw [hf.cit (by decide)]; exact h.1.2.1
    have inner : ∀ one, one < c 3 → ∀ m two w3, two + m = c 3 → Fr 4 w w3 → Tri w3 c → ∃ w4, Fr 4 w w4 ∧ Tri w4 c ∧ (∀ x, swJ (swh c nr ti wf (o, sp) a b) one m two = some x → Rn none 6 jS_firstSwap (42, [some (vR (sg 10)), some (vR (cit 0 0)), some (vI (nI a)), some (vI (nI b)), some (vI (nI one)), some (vI (nI two))], [], w3) (some (vI (nI x)), w4)) ∧ (swJ (swh c nr ti wf (o, sp) a b) one m two = none → ∀ r, Rn none 6 jS_firstSwap (87, [some (vR (sg 10)), some (vR (cit 0 0)), some (vI (nI a)), some (vI (nI b)), some (vI (nI one)), some (vI (nI (c 3)))], [], w4) r → Rn none 6 jS_firstSwap (42, [some (vR (sg 10)), some (vR (cit 0 0)), some (vI (nI a)), some (vI (nI b)), some (vI (nI one)), some (vI (nI two))], [], w3) r) := by
      intro one h1 m
      induction m with
      | zero =>
        intro two w3 hm hf ht
        obtain rfl : two = c 3 := by omega
        refine ⟨w3, hf, ht, fun x z => (by cases z), fun _ r k1 => ?_⟩
        exact Rn.if2t 60 rfl rfl (by dsimp only [tm_c2P]; rw [hG hf]; exact nI_le (Nat.le_refl _) (by omega)) k1
      | succ m ih =>
        intro two w3 hm hf ht
        have h2 : two < c 3 := by omega
        by_cases e : one = two
        · obtain ⟨w4, i1, i2, i3, i4⟩ := ih (two + 1) w3 (by omega) hf ht
          have es : swJ (swh c nr ti wf (o, sp) a b) one (m + 1) two = swJ (swh c nr ti wf (o, sp) a b) one m (two + 1) := by
            rw [swJ, if_neg (fun z => z.1 e)]
          have go : ∀ {r}, Rn none 6 jS_firstSwap (42, [some (vR (sg 10)), some (vR (cit 0 0)), some (vI (nI a)), some (vI (nI b)), some (vI (nI one)), some (vI (nI (two + 1)))], [], w3) r → Rn none 6 jS_firstSwap (42, [some (vR (sg 10)), some (vR (cit 0 0)), some (vI (nI a)), some (vI (nI b)), some (vI (nI one)), some (vI (nI two))], [], w3) r := by
            intro r k1
            refine Rn.if2f 60 rfl rfl (by dsimp only [tm_c2P]; rw [hG hf]; exact nI_ge h2 (by omega)) ?_
            refine Rn.if2t 60 rfl rfl (by dsimp only [tm_c2P]; rw [e]) ?_
            rw [nI_succ two] at k1
            exact Rn.at 2 rfl k1
          refine ⟨w4, i1, i2, fun x hx => go (i3 x (es ▸ hx)), fun hx r k1 => go (i4 (es ▸ hx) r k1)⟩
        · obtain ⟨w5, l1, l2, l3⟩ := sp_swapHelps (dy := dy) hc (h.fr (fun p => hf.cit (k' := 0) (by decide) p)) ht ho ha hb hab h1 h2
          cases hs : swh c nr ti wf (o, sp) a b one two with
          | true =>
            have es : swJ (swh c nr ti wf (o, sp) a b) one (m + 1) two = some (8 * one + two) := by rw [swJ, if_pos ⟨e, hs⟩]
            refine ⟨w5, hf.tr l2, l3, fun x hx => ?_, fun hx => by rw [es] at hx; cases hx⟩
            rw [es] at hx
            cases hx
            refine Rn.if2f 60 rfl rfl (by dsimp only [tm_c2P]; rw [hG hf]; exact nI_ge h2 (by omega)) ?_
            refine Rn.if2f 60 rfl rfl (by dsimp only [tm_c2P]; rw [nI_eq (by omega) (by omega)]; exact e) ?_
            refine Rn.cv 60 rfl rfl rfl rfl rfl l1 (by decide) ?_
            rw [hs]
            refine Rn.if1f 60 rfl rfl bI_t0 ?_
            refine Rn.ir 60 rfl rfl rfl ?_
            dsimp only
            rw [pk_mul, nI_add]
          | false =>
            obtain ⟨w4, i1, i2, i3, i4⟩ := ih (two + 1) w5 (by omega) (hf.tr l2) l3
            have es : swJ (swh c nr ti wf (o, sp) a b) one (m + 1) two = swJ (swh c nr ti wf (o, sp) a b) one m (two + 1) := by
              rw [swJ, if_neg (fun z => by rw [hs] at z; cases z.2)]
            have go : ∀ {r}, Rn none 6 jS_firstSwap (42, [some (vR (sg 10)), some (vR (cit 0 0)), some (vI (nI a)), some (vI (nI b)), some (vI (nI one)), some (vI (nI (two + 1)))], [], w5) r → Rn none 6 jS_firstSwap (42, [some (vR (sg 10)), some (vR (cit 0 0)), some (vI (nI a)), some (vI (nI b)), some (vI (nI one)), some (vI (nI two))], [], w3) r := by
              intro r k1
              refine Rn.if2f 60 rfl rfl (by dsimp only [tm_c2P]; rw [hG hf]; exact nI_ge h2 (by omega)) ?_
              refine Rn.if2f 60 rfl rfl (by dsimp only [tm_c2P]; rw [nI_eq (by omega) (by omega)]; exact e) ?_
              refine Rn.cv 60 rfl rfl rfl rfl rfl l1 (by decide) ?_
              rw [hs]
              refine Rn.if1t 60 rfl rfl bI_f0 ?_
              rw [nI_succ two] at k1
              exact Rn.at 2 rfl k1
            refine ⟨w4, i1, i2, fun x hx => go (i3 x (es ▸ hx)), fun hx r k1 => go (i4 (es ▸ hx) r k1)⟩
    have outer : ∀ m one w3 x5, one + m = c 3 → Fr 4 w w3 → Tri w3 c → ∃ w4, Fr 4 w w4 ∧ Rn none 6 jS_firstSwap (30, [some (vR (sg 10)), some (vR (cit 0 0)), some (vI (nI a)), some (vI (nI b)), some (vI (nI one)), x5], [], w3) (some (vI (feI (swI (swh c nr ti wf (o, sp) a b) (c 3) m one))), w4) := by
      intro m
      induction m with
      | zero =>
        intro one w3 x5 hm hf ht
        refine ⟨w3, hf, ?_⟩
        refine Rn.if2t 60 rfl rfl (by dsimp only [tm_c2P]; rw [hG hf]; exact nI_le (by omega) (by omega)) ?_
        exact Rn.ir 60 rfl rfl rfl rfl
      | succ m ih =>
        intro one w3 x5 hm hf ht
        obtain ⟨w4, i1, i2, i3, i4⟩ := inner one (by omega) (c 3) 0 w3 (by omega) hf ht
        have go : ∀ {r}, Rn none 6 jS_firstSwap (42, [some (vR (sg 10)), some (vR (cit 0 0)), some (vI (nI a)), some (vI (nI b)), some (vI (nI one)), some (vI (nI 0))], [], w3) r → Rn none 6 jS_firstSwap (30, [some (vR (sg 10)), some (vR (cit 0 0)), some (vI (nI a)), some (vI (nI b)), some (vI (nI one)), x5], [], w3) r := by
          intro r k1
          refine Rn.if2f 60 rfl rfl (by dsimp only [tm_c2P]; rw [hG hf]; exact nI_ge (by omega) (by omega)) ?_
          exact Rn.at 2 rfl k1
        cases hj : swJ (swh c nr ti wf (o, sp) a b) one (c 3) 0 with
        | some x =>
          refine ⟨w4, i1, go ?_⟩
          have es : swI (swh c nr ti wf (o, sp) a b) (c 3) (m + 1) one = some x := by rw [swI, hj]
          rw [es]
          exact i3 x hj
        | none =>
          obtain ⟨w5, j1, j2⟩ := ih (one + 1) w4 (some (vI (nI (c 3)))) (by omega) i1 i2
          refine ⟨w5, j1, go (i4 hj _ ?_)⟩
          have es : swI (swh c nr ti wf (o, sp) a b) (c 3) (m + 1) one = swI (swh c nr ti wf (o, sp) a b) (c 3) m (one + 1) := by rw [swI, hj]
          rw [es]
          rw [nI_succ one] at j2
          exact Rn.at 2 rfl j2
    obtain ⟨w4, j1, j2⟩ := outer (c 3) 0 w2 none (by omega) (f2.tr g2) ⟨_, _, _, _, _, _, g3⟩
    refine ⟨w4, hen ?_, j1⟩
    rw [hg]
    refine Rn.if1t 60 rfl rfl bI_f0 ?_
    exact Rn.at 2 rfl j2
end
section
/-! foretold: the least wish, laws, sets, sold -/
def fiN (t : Nat → Bool) : Nat → Nat → Option Nat
  | 0, _ => none
  | n + 1, s => if t s = true then some s else fiN t n (s + 1)
theorem sp_leastWish {w : Wd} {c : Nat → Nat} {nr ti o sp dy : Nat} {wf : Nat → Nat} (hc : PlOk c) (h : Now w c nr ti o sp dy wf) (ho : DyOk c nr ti o sp wf) {a : Nat} (ha : a < c 4) : ∃ w', Cl 6 jS_leastWish [vR (sg 10), vR (cit 0 0), vI (nI a)] w (some (vI (feI (fiN (fun s => gl c (da c nr ti (upW wf a s) (o, sp)).1 a) (2 ^ c 3) 0))), w') ∧ Fr 4 w w' := by
  have hc4 := hc.2.2.1
  have hc3 := hc.2.1
  have hp3 : 2 ^ c 3 ≤ 256 := Nat.pow_le_pow_right (n := 2) (by decide) hc3
  have hp1 : 1 ≤ 2 ^ c 3 := Nat.one_le_two_pow
  obtain ⟨w1, f1, f2, f3⟩ := sp_become (k := 4) (k' := 0) (by decide) hc h.1 h.2
  have key : ∀ m s w2, s + m = 2 ^ c 3 → Fr 4 w w2 → Tri w2 c → ∃ w', Fr 4 w w' ∧ Rn none 5 jS_leastWish (10, [some (vR (sg 10)), some (vR (cit 0 0)), some (vI (nI a)), some (vI (nI s))], [], w2) (some (vI (feI (fiN (fun s => gl c (da c nr ti (upW wf a s) (o, sp)).1 a) m s))), w') := by
    intro m
    induction m with
    | zero =>
      intro s w2 hs hf ht
      refine ⟨w2, hf, ?_⟩
      have hG : w2 (cit 0 0) 3 = nI (c 3) := by rw [hf.cit (by decide)]; exact h.1.2.1
      refine Rn.cv 60 rfl rfl rfl rfl rfl (sp_allGates hG hc3) (by decide) ?_
      refine Rn.if2t 60 rfl rfl (by dsimp only [tm_c2P]; rw [nJ_lt (by omega) (by omega)]; omega) ?_
      exact Rn.ir 60 rfl rfl rfl rfl
    | succ m ih =>
      intro s w2 hs hf ht
      obtain ⟨nr0, ti0, o0, sp0, dy0, wf0, ht⟩ := ht
      have hG : w2 (cit 0 0) 3 = nI (c 3) := by rw [hf.cit (by decide)]; exact h.1.2.1
      have n2 := h.fr (fun p => hf.cit (k' := 0) (by decide) p)
      obtain ⟨w3, g1, g2, g3⟩ := sp_beginAs (k := 4) (k' := 0) (by decide) hc ht.1 ht.2.2 n2.2
      have g4 : CiIs (wset w3 (cit 4 7) a (nI s)) 4 c nr ti o sp dy (upW wf a s) := by
        obtain ⟨q1, ⟨d1, d2, d3, d4, d5, d6⟩, q3⟩ := g3
        refine ⟨q1.of (by rw [wset_ne (cit_p (by decide))]) (by rw [wset_ne (cit_p (by decide))]) (by rw [wset_ne (cit_p (by decide))]) (fun q q1 q2 => wset_ne (cit_p (by omega))), ⟨by rw [wset_ne (cit_p (by decide))]; exact d1, by rw [wset_ne (cit_p (by decide))]; exact d2, by rw [wset_ne (cit_p (by decide))]; exact d3, by rw [wset_ne (cit_p (by decide))]; exact d4, by rw [wset_ne (cit_p (by decide))]; exact d5, fun q hq => ?_⟩, ?_⟩
        · unfold upW
          by_cases e : q = a
          · subst e
            rw [wset_s, if_pos rfl]
          · rw [wset_k e, if_neg e]
            exact d6 q hq
        · rcases q3 with z | ⟨mo, z1, z2, z3⟩
          · exact Or.inl (by rw [wset_ne (cit_p (by decide))]; exact z)
          · exact Or.inr ⟨mo, z1, by rw [wset_ne (cit_p (by decide))]; exact z2, z3.of (wset_ne (cit_p (by decide)))⟩
      have hd : DyOk c nr ti o sp (upW wf a s) := ⟨ho.1, ho.2.1, ho.2.2.1, ho.2.2.2.1, fun p hp => by
        unfold upW
        split
        · omega
        · exact ho.2.2.2.2 p hp⟩
      obtain ⟨w4, i1, i2, i3⟩ := sp_rise hc g4 hd
      have hd2 := hd.da hc
      have hf4 : Fr 4 w w4 := ((hf.tr g2).tr Fr.set).tr i2
      have go : ∀ {r}, Rn none 5 jS_leastWish (51, [some (vR (sg 10)), some (vR (cit 0 0)), some (vI (nI a)), some (vI (nI s))], [vI (bI (gl c (da c nr ti (upW wf a s) (o, sp)).1 a))], w4) r → Rn none 5 jS_leastWish (10, [some (vR (sg 10)), some (vR (cit 0 0)), some (vI (nI a)), some (vI (nI s))], [], w2) r := by
        intro r k1
        refine Rn.cv 60 rfl rfl rfl rfl rfl (sp_allGates hG hc3) (by decide) ?_
        refine Rn.if2f 60 rfl rfl (by dsimp only [tm_c2P]; rw [nJ_lt (by omega) (by omega)]; omega) ?_
        refine Rn.cv 60 rfl rfl rfl rfl rfl g1 (by decide) ?_
        refine Rn.as 60 rfl rfl rfl rfl (by omega) ?_
        refine Rn.cv 60 rfl rfl rfl rfl rfl i1 (by decide) ?_
        refine Rn.cv 60 rfl rfl rfl rfl rfl (sp_isGlad hc i3.1 i3.2.1.2.2.1 hd2.2.2.1 ha) (by decide) ?_
        exact k1
      cases hgl : gl c (da c nr ti (upW wf a s) (o, sp)).1 a with
      | true =>
        refine ⟨w4, hf4, go ?_⟩
        rw [hgl]
        refine Rn.if1f 60 rfl rfl bI_t0 ?_
        unfold fiN
        rw [if_pos hgl]
        exact Rn.ir 60 rfl rfl rfl rfl
      | false =>
        obtain ⟨w', j1, j2⟩ := ih (s + 1) w4 (by omega) hf4 ⟨_, _, _, _, _, _, i3⟩
        refine ⟨w', j1, go ?_⟩
        rw [hgl]
        refine Rn.if1t 60 rfl rfl bI_f0 ?_
        unfold fiN
        rw [if_neg (by rw [hgl]; exact fun z => by cases z)]
        rw [nI_succ s] at j2
        exact Rn.at 2 rfl j2
  obtain ⟨w', j1, j2⟩ := key (2 ^ c 3) 0 w1 (by omega) f2 ⟨_, _, _, _, _, _, f3⟩
  refine ⟨w', ?_, j1⟩
  refine Cl.of rfl rfl rfl (lc := [some (vR (sg 10)), some (vR (cit 0 0)), some (vI (nI a)), none]) rfl ?_
  refine Rn.cv 60 rfl rfl rfl rfl rfl f1 (by decide) ?_
  exact Rn.at 2 rfl j2
theorem bsN_lt {f : Nat → Bool} {N : Nat} : ∀ n p s, p + n = N → s < 2 ^ N → bsN f n p s < 2 ^ N
  | 0, _, _, _, h => h
  | n + 1, p, s, hp, h => by
    unfold bsN
    refine bsN_lt n (p + 1) _ (by omega) (Nat.or_lt_two_pow h ?_)
    cases f p
    · exact Nat.two_pow_pos N
    · exact Nat.pow_lt_pow_right (by decide) (by omega)
theorem bs_lt {f : Nat → Bool} {N : Nat} (h : N ≤ 5) : bs f N < 32 := Nat.lt_of_lt_of_le (bsN_lt N 0 0 (by omega) (Nat.two_pow_pos N)) (Nat.pow_le_pow_right (n := 2) (by decide) h)
/-- how many are glad by a law -/
def laG (c : Nat → Nat) (wf : Nat → Nat) (q : Nat × Nat) (n i : Nat) : Nat := cnt (bs (gl c (daI c (i / 3) (i % 3) wf n q).1) (c 4))
theorem sp_gladBy {w : Wd} {c : Nat → Nat} {nr ti o sp dy : Nat} {wf : Nat → Nat} (hc : PlOk c) (h : Now w c nr ti o sp dy wf) (ht : Tri w c) (ho : DyOk c nr ti o sp wf) {x y n : Nat} (hx : x ≤ 3) (hy : y ≤ 2) (hn : n ≤ 100) : ∃ w', Cl 6 jS_gladBy [vR (sg 10), vR (cit 0 0), vI (nI x), vI (nI y), vI (nI n)] w (some (vI (nI (laG c wf (o, sp) n (3 * x + y)))), w') ∧ Fr 4 w w' ∧ Tri w' c := by
  have hc4 := hc.2.2.1
  obtain ⟨nr0, ti0, o0, sp0, dy0, wf0, ht⟩ := ht
  obtain ⟨w1, f1, f2, f3⟩ := sp_beginAs (k := 4) (k' := 0) (by decide) hc ht.1 ht.2.2 h.2
  have f4 : CiIs (wset (wset w1 (cit 4 0) 1 (nI x)) (cit 4 0) 2 (nI y)) 4 c x y o sp dy wf := by
    obtain ⟨q1, ⟨d1, d2, d3, d4, d5, d6⟩, q3⟩ := f3
    refine ⟨q1.of ?_ ?_ ?_ (fun q q1 q2 => ?_), ⟨?_, ?_, ?_, ?_, ?_, fun q hq => ?_⟩, ?_⟩
    · rw [wset_k (by decide), wset_k (by decide)]
    · rw [wset_k (by decide), wset_k (by decide)]
    · rw [wset_k (by decide), wset_k (by decide)]
    · rw [wset_ne (cit_p (by omega)), wset_ne (cit_p (by omega))]
    · rw [wset_k (by decide), wset_s]
    · rw [wset_s]
    · rw [wset_k (by decide), wset_k (by decide)]; exact d3
    · rw [wset_k (by decide), wset_k (by decide)]; exact d4
    · rw [wset_k (by decide), wset_k (by decide)]; exact d5
    · rw [wset_ne (cit_p (by decide)), wset_ne (cit_p (by decide))]; exact d6 q hq
    · rcases q3 with z | ⟨mo, z1, z2, z3⟩
      · exact Or.inl (by rw [wset_k (by decide), wset_k (by decide)]; exact z)
      · exact Or.inr ⟨mo, z1, by rw [wset_k (by decide), wset_k (by decide)]; exact z2, z3.of (by rw [wset_ne (cit_p (by decide)), wset_ne (cit_p (by decide))])⟩
  have hd : DyOk c x y o sp wf := ⟨hx, hy, ho.2.2⟩
  obtain ⟨w2, g1, g2, g3, g4⟩ := sp_rises hc f4 hd (J := jS_gladBy) (d := 5) (pc := 27) (r0 := sg 0) (fun i => [some (vR (sg 10)), some (vR (cit 0 0)), some (vI (nI x)), some (vI (nI y)), some (vI (nI n)), some (vI (nI i))]) n n 0 (by omega) (by omega) (fun i w1 w2 r hi hc k1 => by
    refine Rn.if2f 60 rfl rfl (nI_ge hi (by omega)) ?_
    refine Rn.cv 60 rfl rfl rfl rfl rfl hc (by decide) ?_
    rw [nI_succ i] at k1
    exact Rn.at 2 rfl k1)
  refine ⟨w2, ?_, ((f2.tr Fr.set).tr Fr.set).tr g1, ⟨_, _, _, _, _, _, g2⟩⟩
  refine Cl.of rfl rfl rfl (lc := [some (vR (sg 10)), some (vR (cit 0 0)), some (vI (nI x)), some (vI (nI y)), some (vI (nI n)), none]) rfl ?_
  refine Rn.cv 60 rfl rfl rfl rfl rfl f1 (by decide) ?_
  refine Rn.at 10 rfl (g4 _ ?_)
  refine Rn.if2t 60 rfl rfl (nI_le (Nat.le_refl _) (by omega)) ?_
  refine Rn.cv 60 rfl rfl rfl rfl rfl (sp_glad hc g2.1 g2.2.1.2.2.1 g3.2.2.1) (by decide) ?_
  refine Rn.cs 60 rfl rfl rfl rfl (sp_bitCount (Nat.lt_trans (bs_lt hc4) (by decide))) (by decide) ?_
  refine Rn.ir 60 rfl rfl rfl ?_
  unfold laG
  rw [show (3 * x + y) / 3 = x by omega, show (3 * x + y) % 3 = y by omega]
def laQ (G : Nat → Nat) (i : Nat) (a : Option (Nat × Nat)) : Option (Nat × Nat) := match a with
  | none => some (i, G i)
  | some (l, m) => if m < G i then some (i, G i) else some (l, m)
def laS (G : Nat → Nat) : Nat → Nat → Option (Nat × Nat) → Option (Nat × Nat)
  | 0, _, a => a
  | n + 1, i, a => laS G n (i + 1) (laQ G i a)
def FrS (w w' : Wd) : Prop := ∀ t, (∀ p, t ≠ cit 4 p) → t ≠ sg 10 → w' t = w t
theorem FrS.tr {w w1 w2 : Wd} (h1 : FrS w w1) (h2 : FrS w1 w2) : FrS w w2 := fun t a b => (h2 t a b).trans (h1 t a b)
theorem FrS.of {w w' : Wd} (h : Fr 4 w w') : FrS w w' := fun t a _ => h t a
theorem FrS.set {w : Wd} {j : Nat} {x : Int32} : FrS w (wset w (sg 10) j x) := fun t _ b => wset_ne b
theorem sg_cit {j : Nat} {k : Fin 6} {p : Nat} : sg j ≠ cit k p := fun z => by cases z
theorem cit_sg {j : Nat} {k : Fin 6} {p : Nat} : cit k p ≠ sg j := fun z => by cases z
theorem FrS.town {w w' : Wd} (h : FrS w w') (p : Nat) : w' (cit 0 p) = w (cit 0 p) := h _ (fun q => cit_k (by decide)) cit_sg
theorem Tri.set {w : Wd} {c : Nat → Nat} (h : Tri w c) {j : Nat} {x : Int32} : Tri (wset w (sg 10) j x) c := by
  obtain ⟨a1, a2, a3, a4, a5, a6, h⟩ := h
  exact ⟨a1, a2, a3, a4, a5, a6, h.fr (fun p => wset_ne cit_sg)⟩
def LaIs (w : Wd) (a : Option (Nat × Nat)) : Prop := match a with
  | none => w (sg 10) 2 = -(nI 1)
  | some (l, m) => w (sg 10) 0 = nI (l / 3) ∧ w (sg 10) 1 = nI (l % 3) ∧ w (sg 10) 2 = nI m ∧ m ≤ 8
theorem m1_lt (n : Nat) (h : n ≤ 8) : -(nI 1) < nI n := by
  rw [Int32.lt_iff_toInt_lt, nI_toInt (by omega), show (-(nI 1)).toInt = -1 by decide]
  omega
theorem sp_findLaw {w : Wd} {c : Nat → Nat} {nr ti o sp dy : Nat} {wf : Nat → Nat} (hc : PlOk c) (h : Now w c nr ti o sp dy wf) (ho : DyOk c nr ti o sp wf) {n : Nat} (hn : n ≤ 100) : ∃ w', Cl 7 jS_findLaw [vR (sg 10), vR (cit 0 0), vI (nI n)] w (none, w') ∧ FrS w w' ∧ LaIs w' (laS (laG c wf (o, sp) n) 12 0 none) := by
  obtain ⟨w1, f1, f2, f3⟩ := sp_become (k := 4) (k' := 0) (by decide) hc h.1 h.2
  have hG : ∀ i, laG c wf (o, sp) n i ≤ 8 := fun i => cnt_le _
  -- one law
  have one : ∀ x y w2 a x5, x ≤ 3 → y ≤ 2 → FrS w w2 → Tri w2 c → LaIs w2 a → ∃ w3 x5', FrS w w3 ∧ Tri w3 c ∧ LaIs w3 (laQ (laG c wf (o, sp) n) (3 * x + y) a) ∧ ∀ r, Rn none 6 jS_findLaw (66, [some (vR (sg 10)), some (vR (cit 0 0)), some (vI (nI n)), some (vI (nI x)), some (vI (nI y)), x5'], [], w3) r → Rn none 6 jS_findLaw (29, [some (vR (sg 10)), some (vR (cit 0 0)), some (vI (nI n)), some (vI (nI x)), some (vI (nI y)), x5], [], w2) r := by
    intro x y w2 a x5 hx hy hf ht hl
    obtain ⟨w3, g1, g2, g3⟩ := sp_gladBy (dy := dy) hc (h.fr (fun p => hf.town p)) ht ho hx hy hn
    have hw3 : w3 (sg 10) = w2 (sg 10) := g2 _ (fun p => sg_cit)
    have hGi := hG (3 * x + y)
    by_cases hgt : w3 (sg 10) 2 < nI (laG c wf (o, sp) n (3 * x + y))
    · refine ⟨wset (wset (wset w3 (sg 10) 0 (nI x)) (sg 10) 1 (nI y)) (sg 10) 2 (nI (laG c wf (o, sp) n (3 * x + y))), some (vI (nI (laG c wf (o, sp) n (3 * x + y)))), (((hf.tr (FrS.of g2)).tr FrS.set).tr FrS.set).tr FrS.set, g3.set.set.set, ?_, fun r k1 => ?_⟩
      · have e : laQ (laG c wf (o, sp) n) (3 * x + y) a = some (3 * x + y, laG c wf (o, sp) n (3 * x + y)) := by
          cases a with
          | none => rfl
          | some q =>
            obtain ⟨q1, q2⟩ := q
            obtain ⟨b1, b2, b3, b4⟩ := hl
            rw [hw3, b3, nJ_lt (by omega) (by omega)] at hgt
            show (if q2 < _ then _ else _) = _
            rw [if_pos hgt]
        rw [e]
        refine ⟨?_, ?_, ?_, hGi⟩
        · rw [wset_k (by decide), wset_k (by decide), wset_s, show (3 * x + y) / 3 = x by omega]
        · rw [wset_k (by decide), wset_s, show (3 * x + y) % 3 = y by omega]
        · rw [wset_s]
      · refine Rn.cv 60 rfl rfl rfl rfl rfl g1 (by decide) ?_
        refine Rn.if2f 60 rfl rfl (by dsimp only [tm_c2P]; exact Int32.not_le.mpr hgt) ?_
        exact Rn.at 9 rfl k1
    · refine ⟨w3, some (vI (nI (laG c wf (o, sp) n (3 * x + y)))), hf.tr (FrS.of g2), g3, ?_, fun r k1 => ?_⟩
      · cases a with
        | none =>
          have hl : w2 (sg 10) 2 = -(nI 1) := hl
          rw [hw3, hl] at hgt
          exact absurd (m1_lt _ hGi) hgt
        | some q =>
          obtain ⟨q1, q2⟩ := q
          obtain ⟨b1, b2, b3, b4⟩ := hl
          rw [hw3, b3, nJ_lt (by omega) (by omega)] at hgt
          have e : laQ (laG c wf (o, sp) n) (3 * x + y) (some (q1, q2)) = some (q1, q2) := by
            show (if q2 < _ then _ else _) = _
            rw [if_neg hgt]
          rw [e]
          exact ⟨by rw [hw3]; exact b1, by rw [hw3]; exact b2, by rw [hw3]; exact b3, b4⟩
      · refine Rn.cv 60 rfl rfl rfl rfl rfl g1 (by decide) ?_
        refine Rn.if2t 60 rfl rfl (by dsimp only [tm_c2P]; exact Int32.not_lt.mp hgt) ?_
        exact k1
  have row : ∀ m x y w2 a x5, x ≤ 3 → y + m = 3 → FrS w w2 → Tri w2 c → LaIs w2 a → ∃ w3 x5', FrS w w3 ∧ Tri w3 c ∧ LaIs w3 (laS (laG c wf (o, sp) n) m (3 * x + y) a) ∧ ∀ r, Rn none 6 jS_findLaw (72, [some (vR (sg 10)), some (vR (cit 0 0)), some (vI (nI n)), some (vI (nI x)), some (vI (nI 3)), x5'], [], w3) r → Rn none 6 jS_findLaw (23, [some (vR (sg 10)), some (vR (cit 0 0)), some (vI (nI n)), some (vI (nI x)), some (vI (nI y)), x5], [], w2) r := by
    intro m
    induction m with
    | zero =>
      intro x y w2 a x5 hx hy hf ht hl
      obtain rfl : y = 3 := by omega
      refine ⟨w2, x5, hf, ht, hl, fun r k1 => ?_⟩
      exact Rn.if2t 60 rfl rfl (nI_lt (by decide) (by decide)) k1
    | succ m ih =>
      intro x y w2 a x5 hx hy hf ht hl
      obtain ⟨w3, x5', i1, i2, i3, i4⟩ := one x y w2 a x5 hx (by omega) hf ht hl
      obtain ⟨w4, x5'', j1, j2, j3, j4⟩ := ih x (y + 1) w3 _ x5' hx (by omega) i1 i2 i3
      refine ⟨w4, x5'', j1, j2, j3, fun r k1 => ?_⟩
      refine Rn.if2f 60 rfl rfl (nI_nlt (by omega) (by omega)) ?_
      refine i4 r ?_
      have k2 := j4 r k1
      rw [nI_succ y] at k2
      exact Rn.at 2 rfl k2
  have rows : ∀ m x w2 a x4 x5, x + m = 4 → FrS w w2 → Tri w2 c → LaIs w2 a → ∃ w3, FrS w w3 ∧ LaIs w3 (laS (laG c wf (o, sp) n) (3 * m) (3 * x) a) ∧ Rn none 6 jS_findLaw (15, [some (vR (sg 10)), some (vR (cit 0 0)), some (vI (nI n)), some (vI (nI x)), x4, x5], [], w2) (none, w3) := by
    intro m
    induction m with
    | zero =>
      intro x w2 a x4 x5 hx hf ht hl
      obtain rfl : x = 4 := by omega
      refine ⟨w2, hf, hl, ?_⟩
      refine Rn.if2t 60 rfl rfl (nI_lt (by decide) (by decide)) ?_
      exact Rn.vr 60 rfl rfl rfl rfl
    | succ m ih =>
      intro x w2 a x4 x5 hx hf ht hl
      obtain ⟨w3, x5', i1, i2, i3, i4⟩ := row 3 x 0 w2 a x5 (by omega) (by omega) hf ht hl
      obtain ⟨w4, j1, j2, j3⟩ := ih (x + 1) w3 _ (some (vI (nI 3))) x5' (by omega) i1 i2 i3
      refine ⟨w4, j1, ?_, ?_⟩
      · have e : laS (laG c wf (o, sp) n) (3 * (m + 1)) (3 * x) a = laS (laG c wf (o, sp) n) (3 * m) (3 * (x + 1)) (laS (laG c wf (o, sp) n) 3 (3 * x + 0) a) := by
          rw [show 3 * (m + 1) = 3 * m + 1 + 1 + 1 by omega]
          rfl
        rw [e]
        exact j2
      · refine Rn.if2f 60 rfl rfl (nI_nlt (by omega) (by omega)) ?_
        refine Rn.at 2 rfl (i4 _ ?_)
        rw [nI_succ x] at j3
        exact Rn.at 2 rfl j3
  obtain ⟨w3, j1, j2, j3⟩ := rows 4 0 (wset w1 (sg 10) 2 (-(nI 1))) none none none (by omega) ((FrS.of f2).tr FrS.set) (Tri.set ⟨_, _, _, _, _, _, f3⟩) wset_s
  refine ⟨w3, ?_, j1, j2⟩
  refine Cl.of rfl rfl rfl (lc := [some (vR (sg 10)), some (vR (cit 0 0)), some (vI (nI n)), none, none, none]) rfl ?_
  refine Rn.cv 60 rfl rfl rfl rfl rfl f1 (by decide) ?_
  exact Rn.at 5 rfl j3
end
section
/-! foretold: sets that fit, sold, the round -/
/-- of sets: how many, open in all, shut in all -/
def fsQ (t : Nat → Bool) (s : Nat) (q : Nat × Nat × Nat) : Nat × Nat × Nat := if t s = true then (q.1 + 1, q.2.1 &&& s, q.2.2 &&& (s ^^^ 4294967295)) else q
def fsN (t : Nat → Bool) : Nat → Nat → Nat × Nat × Nat → Nat × Nat × Nat
  | 0, _, q => q
  | n + 1, s, q => fsN t n (s + 1) (fsQ t s q)
theorem m1_nI : -(nI 1) = nI 4294967295 := by decide
def fsT (c : Nat → Nat) (tg tn s : Nat) : Bool := decide (bs (gl c s) (c 4) &&& tg = tg) && decide (bs (gl c s) (c 4) &&& tn = 0)
def FsIs (w : Wd) (q : Nat × Nat × Nat) : Prop := w (sg 10) 3 = nI q.1 ∧ w (sg 10) 4 = nI q.2.1 ∧ w (sg 10) 5 = nI q.2.2
theorem fs_step {V : Wd} {x1 x2 x3 x4 x5 : Option AV} {s : Nat} {a b d : Int32} {dp : Nat} {r : Rs} (h1 : V (sg 10) 3 = a) (h2 : V (sg 10) 4 = b) (h3 : V (sg 10) 5 = d) (k1 : Rn none dp jS_findSets (108, [some (vR (sg 10)), x1, x2, x3, some (vI (nI s)), x5], [], wset (wset (wset V (sg 10) 3 (a + nI 1)) (sg 10) 4 (b &&& nI s)) (sg 10) 5 (d &&& (nI s ^^^ -(nI 1)))) r) : Rn none dp jS_findSets (74, [some (vR (sg 10)), x1, x2, x3, some (vI (nI s)), x5], [], V) r := by
  subst h1
  subst h2
  subst h3
  have e2 : wset V (sg 10) 3 (V (sg 10) 3 + nI 1) (sg 10) 4 = V (sg 10) 4 := wset_k (by decide)
  have e3 : wset (wset V (sg 10) 3 (V (sg 10) 3 + nI 1)) (sg 10) 4 (V (sg 10) 4 &&& nI s) (sg 10) 5 = V (sg 10) 5 := by rw [wset_k (by decide), wset_k (by decide)]
  rw [← e3, ← e2] at k1
  exact Rn.at 20 rfl k1
theorem sp_findSets {w : Wd} {c : Nat → Nat} {nr ti o sp dy : Nat} {wf : Nat → Nat} (hc : PlOk c) (h : Now w c nr ti o sp dy wf) {tg tn : Nat} (h1 : tg < 32) (h2 : tn < 32) : ∃ w', Cl 5 jS_findSets [vR (sg 10), vR (cit 0 0), vI (nI tg), vI (nI tn)] w (none, w') ∧ FrS w w' ∧ FsIs w' (fsN (fsT c tg tn) (2 ^ c 3) 0 (0, 2 ^ c 3 - 1, 2 ^ c 3 - 1)) := by
  have hc4 := hc.2.2.1
  have hc3 := hc.2.1
  have hp3 : 2 ^ c 3 ≤ 256 := Nat.pow_le_pow_right (n := 2) (by decide) hc3
  have hp1 : 1 ≤ 2 ^ c 3 := Nat.one_le_two_pow
  obtain ⟨w1, f1, f2, f3⟩ := sp_become (k := 4) (k' := 0) (by decide) hc h.1 h.2
  have hGt : ∀ {w2 : Wd}, FrS w w2 → w2 (cit 0 0) 3 = nI (c 3) := fun hf => by rw [hf.town]; exact h.1.2.1
  have key : ∀ m s w2 q x5, s + m = 2 ^ c 3 → FrS w w2 → PlIs w2 4 c → FsIs w2 q → ∃ w3, FrS w w3 ∧ FsIs w3 (fsN (fsT c tg tn) m s q) ∧ Rn none 4 jS_findSets (32, [some (vR (sg 10)), some (vR (cit 0 0)), some (vI (nI tg)), some (vI (nI tn)), some (vI (nI s)), x5], [], w2) (none, w3) := by
    intro m
    induction m with
    | zero =>
      intro s w2 q x5 hs hf hp hq
      refine ⟨w2, hf, hq, ?_⟩
      refine Rn.cv 60 rfl rfl rfl rfl rfl (sp_allGates (hGt hf) hc3) (by decide) ?_
      refine Rn.if2t 60 rfl rfl (by dsimp only [tm_c2P]; rw [nJ_lt (by omega) (by omega)]; omega) ?_
      exact Rn.vr 60 rfl rfl rfl rfl
    | succ m ih =>
      intro s w2 q x5 hs hf hp hq
      have hp2 : PlIs (wset w2 (cit 4 0) 12 (nI s)) 4 c := hp.of (wset_k (by decide)) (wset_k (by decide)) (wset_k (by decide)) (fun p p1 p2 => wset_ne (cit_p (by omega)))
      have hf2 : FrS w (wset w2 (cit 4 0) 12 (nI s)) := fun t a b => (wset_ne (a 0)).trans (hf t a b)
      have hq2 : FsIs (wset w2 (cit 4 0) 12 (nI s)) q := by
        unfold FsIs
        rw [wset_ne sg_cit]
        exact hq
      have hgl := bs_lt (f := gl c s) hc4
      have go : ∀ {r}, Rn none 4 jS_findSets (59, [some (vR (sg 10)), some (vR (cit 0 0)), some (vI (nI tg)), some (vI (nI tn)), some (vI (nI s)), some (vI (nI (bs (gl c s) (c 4))))], [], wset w2 (cit 4 0) 12 (nI s)) r → Rn none 4 jS_findSets (32, [some (vR (sg 10)), some (vR (cit 0 0)), some (vI (nI tg)), some (vI (nI tn)), some (vI (nI s)), x5], [], w2) r := by
        intro r k1
        refine Rn.cv 60 rfl rfl rfl rfl rfl (sp_allGates (hGt hf) hc3) (by decide) ?_
        refine Rn.if2f 60 rfl rfl (by dsimp only [tm_c2P]; rw [nJ_lt (by omega) (by omega)]; omega) ?_
        refine Rn.cv 60 rfl rfl rfl rfl rfl (sp_glad hc hp2 wset_s (by omega)) (by decide) ?_
        exact Rn.at 1 rfl k1
      have go2 : ∀ w4 q', FrS w w4 → PlIs w4 4 c → FsIs w4 q' → fsQ (fsT c tg tn) s q = q' → ∃ w3, FrS w w3 ∧ FsIs w3 (fsN (fsT c tg tn) (m + 1) s q) ∧ Rn none 4 jS_findSets (108, [some (vR (sg 10)), some (vR (cit 0 0)), some (vI (nI tg)), some (vI (nI tn)), some (vI (nI s)), some (vI (nI (bs (gl c s) (c 4))))], [], w4) (none, w3) := by
        intro w4 q' a1 a2 a3 a4
        obtain ⟨w3, b1, b2, b3⟩ := ih (s + 1) w4 q' (some (vI (nI (bs (gl c s) (c 4))))) (by omega) a1 a2 a3
        refine ⟨w3, b1, ?_, ?_⟩
        · unfold fsN
          rw [a4]
          exact b2
        · rw [nI_succ s] at b3
          exact Rn.at 2 rfl b3
      by_cases e1 : bs (gl c s) (c 4) &&& tg = tg
      · by_cases e2 : bs (gl c s) (c 4) &&& tn = 0
        · obtain ⟨q1, q2, q3⟩ := hq2
          obtain ⟨w3, b1, b2, b3⟩ := go2 (wset (wset (wset (wset w2 (cit 4 0) 12 (nI s)) (sg 10) 3 (nI q.1 + nI 1)) (sg 10) 4 (nI q.2.1 &&& nI s)) (sg 10) 5 (nI q.2.2 &&& (nI s ^^^ -(nI 1)))) (q.1 + 1, q.2.1 &&& s, q.2.2 &&& (s ^^^ 4294967295)) (((hf2.tr FrS.set).tr FrS.set).tr FrS.set) (hp2.of (by rw [wset_ne cit_sg, wset_ne cit_sg, wset_ne cit_sg]) (by rw [wset_ne cit_sg, wset_ne cit_sg, wset_ne cit_sg]) (by rw [wset_ne cit_sg, wset_ne cit_sg, wset_ne cit_sg]) (fun p _ _ => by rw [wset_ne cit_sg, wset_ne cit_sg, wset_ne cit_sg])) ⟨by rw [wset_k (by decide), wset_k (by decide), wset_s, nI_add], by rw [wset_k (by decide), wset_s, nJ_and], by rw [wset_s, m1_nI, nJ_xor, nJ_and]⟩ (by unfold fsQ fsT; rw [if_pos (by rw [decide_eq_true e1, decide_eq_true e2]; rfl)])
          refine ⟨w3, b1, b2, go ?_⟩
          refine Rn.if2f 60 rfl rfl (by dsimp only [tm_c2P]; rw [nJ_and, e1]; exact fun z => z rfl) ?_
          refine Rn.if1f 60 rfl rfl (by dsimp only [tm_c2P]; rw [nJ_and, e2]; exact fun z => z rfl) ?_
          exact fs_step (x4 := none) q1 q2 q3 b3
        · obtain ⟨w3, b1, b2, b3⟩ := go2 (wset w2 (cit 4 0) 12 (nI s)) q hf2 hp2 hq2 (by unfold fsQ fsT; rw [if_neg (by rw [decide_eq_false e2, Bool.and_false]; exact fun z => by cases z)])
          refine ⟨w3, b1, b2, go ?_⟩
          refine Rn.if2f 60 rfl rfl (by dsimp only [tm_c2P]; rw [nJ_and, e1]; exact fun z => z rfl) ?_
          refine Rn.if1t 60 rfl rfl (by dsimp only [tm_c2P]; rw [nJ_and, nJ_eq0 (Nat.lt_of_lt_of_le (nJ_and_lt h2) (by decide))]; exact e2) ?_
          exact b3
      · obtain ⟨w3, b1, b2, b3⟩ := go2 (wset w2 (cit 4 0) 12 (nI s)) q hf2 hp2 hq2 (by unfold fsQ fsT; rw [if_neg (by rw [decide_eq_false e1, Bool.false_and]; exact fun z => by cases z)])
        refine ⟨w3, b1, b2, go ?_⟩
        refine Rn.if2t 60 rfl rfl (by dsimp only [tm_c2P]; rw [nJ_and, nI_eq (by have := nJ_and_lt (a := bs (gl c s) (c 4)) h1; omega) (by omega)]; exact e1) ?_
        exact b3
  have a1 : FrS w (wset (wset (wset w1 (sg 10) 3 (nI 0)) (sg 10) 4 (nI (2 ^ c 3 - 1))) (sg 10) 5 (nI (2 ^ c 3 - 1))) := (((FrS.of f2).tr FrS.set).tr FrS.set).tr FrS.set
  obtain ⟨w3, b1, b2, b3⟩ := key (2 ^ c 3) 0 _ (0, 2 ^ c 3 - 1, 2 ^ c 3 - 1) none (by omega) a1 (f3.1.of (by rw [wset_ne cit_sg, wset_ne cit_sg, wset_ne cit_sg]) (by rw [wset_ne cit_sg, wset_ne cit_sg, wset_ne cit_sg]) (by rw [wset_ne cit_sg, wset_ne cit_sg, wset_ne cit_sg]) (fun p _ _ => by rw [wset_ne cit_sg, wset_ne cit_sg, wset_ne cit_sg])) ⟨by rw [wset_k (by decide), wset_k (by decide), wset_s], by rw [wset_k (by decide), wset_s], wset_s⟩
  refine ⟨w3, ?_, b1, b2⟩
  refine Cl.of rfl rfl rfl (lc := [some (vR (sg 10)), some (vR (cit 0 0)), some (vI (nI tg)), some (vI (nI tn)), none, none]) rfl ?_
  refine Rn.cv 60 rfl rfl rfl rfl rfl f1 (by decide) ?_
  refine Rn.cv 60 rfl rfl rfl rfl rfl (sp_allGates (hGt ((FrS.of f2).tr FrS.set)) hc3) (by decide) ?_
  refine Rn.cv 60 rfl rfl rfl rfl rfl (sp_allGates (hGt (((FrS.of f2).tr FrS.set).tr FrS.set)) hc3) (by decide) ?_
  exact Rn.at 3 rfl b3
def seJ (t : Nat → Nat → Bool) (p : Nat) : Nat → Nat → Nat → Nat
  | 0, _, s => s
  | n + 1, g, s => seJ t p n (g + 1) (s ||| bif t p g then 2 ^ p else 0)
def seI (t : Nat → Nat → Bool) (G : Nat) : Nat → Nat → Nat → Nat
  | 0, _, s => s
  | n + 1, p, s => seI t G n (p + 1) (seJ t p G 0 s)
def seT (c : Nat → Nat) (nr ti : Nat) (wf : Nat → Nat) (q : Nat × Nat) (x p g : Nat) : Bool := decide ((da c nr ti (upW wf p (sbN (wf p) g (!(wf p).testBit g))) q).1 = x)
theorem bI_not (b : Bool) : nI 1 - bI b = bI (!b) := by cases b <;> decide
theorem sp_sellers {w : Wd} {c : Nat → Nat} {nr ti o sp dy : Nat} {wf : Nat → Nat} (hc : PlOk c) (h : Now w c nr ti o sp dy wf) (ho : DyOk c nr ti o sp wf) {x : Nat} (hx : x < 256) : ∃ w', Cl 6 jS_sellers [vR (sg 10), vR (cit 0 0), vI (nI x)] w (some (vI (nI (seI (seT c nr ti wf (o, sp) x) (c 3) (c 4) 0 0))), w') ∧ Fr 4 w w' := by
  have hc4 := hc.2.2.1
  have hc3 := hc.2.1
  obtain ⟨w1, f1, f2, f3⟩ := sp_become (k := 4) (k' := 0) (by decide) hc h.1 h.2
  have inner : ∀ p, p < c 4 → ∀ m g s w2, g + m = c 3 → Fr 4 w w2 → Tri w2 c → ∃ w3, Fr 4 w w3 ∧ Tri w3 c ∧ ∀ r, Rn none 5 jS_sellers (98, [some (vR (sg 10)), some (vR (cit 0 0)), some (vI (nI x)), some (vI (nI (seJ (seT c nr ti wf (o, sp) x) p m g s))), some (vI (nI p)), some (vI (nI (c 3)))], [], w3) r → Rn none 5 jS_sellers (25, [some (vR (sg 10)), some (vR (cit 0 0)), some (vI (nI x)), some (vI (nI s)), some (vI (nI p)), some (vI (nI g))], [], w2) r := by
    intro p hp m
    induction m with
    | zero =>
      intro g s w2 hg hf ht
      obtain rfl : g = c 3 := by omega
      refine ⟨w2, hf, ht, fun r k1 => ?_⟩
      have hG : w2 (cit 0 0) 3 = nI (c 3) := by rw [hf.cit (by decide)]; exact h.1.2.1
      exact Rn.if2t 60 rfl rfl (by dsimp only [tm_c2P]; rw [hG]; exact nI_le (Nat.le_refl _) (by omega)) k1
    | succ m ih =>
      intro g s w2 hg hf ht
      obtain ⟨nr0, ti0, o0, sp0, dy0, wf0, ht⟩ := ht
      have hgl : g < c 3 := by omega
      have hG : w2 (cit 0 0) 3 = nI (c 3) := by rw [hf.cit (by decide)]; exact h.1.2.1
      have n2 := h.fr (fun p => hf.cit (k' := 0) (by decide) p)
      obtain ⟨w3, g1, g2, g3⟩ := sp_beginAs (k := 4) (k' := 0) (by decide) hc ht.1 ht.2.2 n2.2
      have n3 := n2.fr (fun p => g2.cit (k' := 0) (by decide) p)
      obtain ⟨w4, i1, i2, i3⟩ := sp_wishSo (!(wf p).testBit g) hc g3 (p := p) (g := g) (ho.2.2.2.2 p hp) hp (by omega)
      have hd : DyOk c nr ti o sp (upW wf p (sbN (wf p) g (!(wf p).testBit g))) := ⟨ho.1, ho.2.1, ho.2.2.1, ho.2.2.2.1, fun q hq => by
        unfold upW
        split
        · exact sbN_lt (ho.2.2.2.2 p hp) (by omega)
        · exact ho.2.2.2.2 q hq⟩
      obtain ⟨w5, j1, j2, j3⟩ := sp_rise hc i3 hd
      have hd2 := hd.da hc
      have hd3 := hd2.2.2.1
      obtain ⟨w6, l1, l2, l3⟩ := ih (g + 1) (s ||| bif seT c nr ti wf (o, sp) x p g then 2 ^ p else 0) w5 (by omega) (((hf.tr g2).tr i2).tr j2) ⟨_, _, _, _, _, _, j3⟩
      refine ⟨w6, l1, l2, fun r k1 => ?_⟩
      have k2 := l3 r k1
      rw [nI_succ g, ← nJ_or] at k2
      refine Rn.if2f 60 rfl rfl (by dsimp only [tm_c2P]; rw [hG]; exact nI_ge hgl (by omega)) ?_
      refine Rn.cv 60 rfl rfl rfl rfl rfl g1 (by decide) ?_
      refine Rn.cv 60 rfl rfl rfl rfl rfl (sp_wishFor (k := 0) (n3.2.2.2.2.2.2 p hp) (ho.2.2.2.2 p hp) (by omega) (by omega)) (by decide) ?_
      refine Rn.at 1 (x := (60, [some (vR (sg 10)), some (vR (cit 0 0)), some (vI (nI x)), some (vI (nI s)), some (vI (nI p)), some (vI (nI g))], [vI (nI 1 - bI ((wf p).testBit g)), vI (nI g), vI (nI p), vR (cit 4 0)], w3)) rfl ?_
      rw [bI_not]
      refine Rn.cv 60 rfl rfl rfl rfl rfl i1 (by decide) ?_
      refine Rn.cv 60 rfl rfl rfl rfl rfl j1 (by decide) ?_
      by_cases e : (da c nr ti (upW wf p (sbN (wf p) g (!(wf p).testBit g))) (o, sp)).1 = x
      · have es : seT c nr ti wf (o, sp) x p g = true := decide_eq_true e
        rw [es, show (bif true then 2 ^ p else 0) = 2 ^ p from rfl, ← nJ_1shl (by omega)] at k2
        refine Rn.if2f 60 rfl rfl (by dsimp only [tm_c2P]; rw [j3.2.1.2.2.1, e]; exact fun z => z rfl) ?_
        exact Rn.at 8 rfl k2
      · have es : seT c nr ti wf (o, sp) x p g = false := decide_eq_false e
        rw [es] at k2
        refine Rn.if2t 60 rfl rfl (by dsimp only [tm_c2P]; rw [j3.2.1.2.2.1, nI_eq (by omega) (by omega)]; exact e) ?_
        exact Rn.at 5 rfl k2
  have outer : ∀ m p s w2 x5, p + m = c 4 → Fr 4 w w2 → Tri w2 c → ∃ w3, Fr 4 w w3 ∧ Rn none 5 jS_sellers (13, [some (vR (sg 10)), some (vR (cit 0 0)), some (vI (nI x)), some (vI (nI s)), some (vI (nI p)), x5], [], w2) (some (vI (nI (seI (seT c nr ti wf (o, sp) x) (c 3) m p s))), w3) := by
    intro m
    induction m with
    | zero =>
      intro p s w2 x5 hp hf ht
      refine ⟨w2, hf, ?_⟩
      have hG : w2 (cit 0 0) 4 = nI (c 4) := by rw [hf.cit (by decide)]; exact h.1.2.2.1
      refine Rn.if2t 60 rfl rfl (by dsimp only [tm_c2P]; rw [hG]; exact nI_le (by omega) (by omega)) ?_
      exact Rn.ir 60 rfl rfl rfl rfl
    | succ m ih =>
      intro p s w2 x5 hp hf ht
      have hG : w2 (cit 0 0) 4 = nI (c 4) := by rw [hf.cit (by decide)]; exact h.1.2.2.1
      obtain ⟨w3, i1, i2, i3⟩ := inner p (by omega) (c 3) 0 s w2 (by omega) hf ht
      obtain ⟨w4, j1, j2⟩ := ih (p + 1) (seJ (seT c nr ti wf (o, sp) x) p (c 3) 0 s) w3 (some (vI (nI (c 3)))) (by omega) i1 i2
      refine ⟨w4, j1, ?_⟩
      refine Rn.if2f 60 rfl rfl (by dsimp only [tm_c2P]; rw [hG]; exact nI_ge (by omega) (by omega)) ?_
      refine Rn.at 2 rfl (i3 _ ?_)
      unfold seI
      rw [nI_succ p] at j2
      exact Rn.at 2 rfl j2
  obtain ⟨w3, j1, j2⟩ := outer (c 4) 0 0 w1 none (by omega) f2 ⟨_, _, _, _, _, _, f3⟩
  refine ⟨w3, ?_, j1⟩
  refine Cl.of rfl rfl rfl (lc := [some (vR (sg 10)), some (vR (cit 0 0)), some (vI (nI x)), none, none, none]) rfl ?_
  refine Rn.cv 60 rfl rfl rfl rfl rfl f1 (by decide) ?_
  exact Rn.at 4 rfl j2
end
section
/-! the round that all comes to -/
theorem pigeon : ∀ (n : Nat) (f : Nat → Nat), (∀ i, i ≤ n → f i < n) → ∃ i j, i < j ∧ j ≤ n ∧ f i = f j
  | 0, f, h => absurd (h 0 (Nat.le_refl 0)) (by omega)
  | n + 1, f, h => by
    by_cases hx : ∃ i, i ≤ n ∧ f i = f (n + 1)
    · obtain ⟨i, h1, h2⟩ := hx
      exact ⟨i, n + 1, by omega, Nat.le_refl _, h2⟩
    · have hx : ∀ i, i ≤ n → f i ≠ f (n + 1) := fun i hi e => hx ⟨i, hi, e⟩
      have hv := h (n + 1) (Nat.le_refl _)
      obtain ⟨i, j, h1, h2, h3⟩ := pigeon n (fun i => if f i = n then f (n + 1) else f i) (fun i hi => by
        have a1 := h i (by omega)
        have a2 := hx i hi
        show (if f i = n then f (n + 1) else f i) < n
        split
        · omega
        · omega)
      refine ⟨i, j, h1, by omega, ?_⟩
      have a2 := hx i (by omega)
      have a3 := hx j h2
      have h3 : (if f i = n then f (n + 1) else f i) = (if f j = n then f (n + 1) else f j) := h3
      split at h3
      · split at h3
        · omega
        · exact absurd h3.symm a3
      · split at h3
        · exact absurd h3 a2
        · exact h3
abbrev NN := Nat × Nat
/-- F, n times -/
def itN (F : NN → NN) : Nat → NN → NN
  | 0, q => q
  | n + 1, q => F (itN F n q)
def brN (F : NN → NN) : Nat → NN → NN → Nat → Nat → Option Nat
  | 0, _, _, _, _ => none
  | f + 1, t, u, n, m => if F u = t then some (n + 1) else if n + 1 = m then brN F f (F u) (F u) 0 (2 * m) else brN F f t (F u) (n + 1) m
def tlN (F : NN → NN) : Nat → NN → NN → Nat → Option Nat
  | 0, _, _, _ => none
  | f + 1, t, u, n => if t = u then some n else tlN F f (F t) (F u) (n + 1)
def brL (F : NN → NN) (q : NN) : Nat := (brN F 20000 q q 0 1).getD 0
theorem itN_add (F : NN → NN) (q : NN) (n : Nat) : ∀ m, itN F (m + n) q = itN F m (itN F n q)
  | 0 => by rw [Nat.zero_add]; rfl
  | m + 1 => by
    rw [show m + 1 + n = (m + n) + 1 by omega]
    show F (itN F (m + n) q) = F (itN F m (itN F n q))
    rw [itN_add F q n m]
/-- what a round found says -/
theorem brN_some (F : NN → NN) (q : NN) : ∀ f n m L, n < m → brN F f (itN F (m - 1) q) (itN F (m - 1 + n) q) n m = some L → f + (m - 1 + n) ≤ 20000 → ∃ k, itN F (k + L) q = itN F k q ∧ k ≤ 20000 ∧ 1 ≤ L ∧ L ≤ 20000 := by
  intro f
  induction f with
  | zero => intro n m L _ h; cases h
  | succ f ih =>
    intro n m L hn h hf
    unfold brN at h
    have e1 : F (itN F (m - 1 + n) q) = itN F (m - 1 + (n + 1)) q := rfl
    rw [e1] at h
    by_cases c1 : itN F (m - 1 + (n + 1)) q = itN F (m - 1) q
    · rw [if_pos c1] at h
      cases h
      exact ⟨m - 1, c1, by omega, by omega, by omega⟩
    · rw [if_neg c1] at h
      by_cases c2 : n + 1 = m
      · rw [if_pos c2] at h
        refine ih 0 (2 * m) L (by omega) ?_ (by omega)
        rw [show 2 * m - 1 + 0 = m - 1 + (n + 1) by omega, show 2 * m - 1 = m - 1 + (n + 1) by omega]
        exact h
      · rw [if_neg c2] at h
        exact ih (n + 1) m L (by omega) h (by omega)
theorem brN_ends (F : NN → NN) (q : NN) {j : Nat} (hj : itN F (8191 + j) q = itN F 8191 q) (j1 : 1 ≤ j) (j2 : j ≤ 8192) : ∀ f n m e, m = 2 ^ e → e ≤ 13 → n < m → (e = 13 → n < j) → 20000 ≤ f + (m - 1 + n) → brN F f (itN F (m - 1) q) (itN F (m - 1 + n) q) n m ≠ none := by
  intro f
  induction f with
  | zero =>
    intro n m e hm he hn _ hf
    have : m ≤ 2 ^ 13 := by rw [hm]; exact Nat.pow_le_pow_right (by decide) he
    omega
  | succ f ih =>
    intro n m e hm he hn hc hf h
    unfold brN at h
    have e1 : F (itN F (m - 1 + n) q) = itN F (m - 1 + (n + 1)) q := rfl
    rw [e1] at h
    have c1 : ¬ itN F (m - 1 + (n + 1)) q = itN F (m - 1) q := fun c1 => by
      rw [if_pos c1] at h
      cases h
    rw [if_neg c1] at h
    have hne : e = 13 → n + 1 ≠ j := fun h13 hnj => by
      subst h13
      rw [hm, hnj] at c1
      exact c1 hj
    by_cases c2 : n + 1 = m
    · rw [if_pos c2] at h
      have he2 : e ≠ 13 := fun h13 => by
        have := hc h13
        have := hne h13
        subst h13
        omega
      refine ih 0 (2 * m) (e + 1) (by rw [hm, Nat.pow_succ]; omega) (by omega) (by omega) (fun _ => by omega) (by omega) ?_
      rw [show 2 * m - 1 + 0 = m - 1 + (n + 1) by omega, show 2 * m - 1 = m - 1 + (n + 1) by omega]
      exact h
    · rw [if_neg c2] at h
      exact ih (n + 1) m e hm he (by omega) (fun h13 => by have := hc h13; have := hne h13; omega) (by omega) h
theorem itN_in {F : NN → NN} {P : NN → Prop} (hF : ∀ q, P q → P (F q)) {q : NN} (h : P q) : ∀ n, P (itN F n q)
  | 0 => h
  | n + 1 => hF _ (itN_in hF h n)
def st8 (q : NN) : Prop := q.1 < 256 ∧ q.2 < 32
theorem brL_is {F : NN → NN} (hF : ∀ q, st8 q → st8 (F q)) {q : NN} (h : st8 q) : brN F 20000 q q 0 1 = some (brL F q) ∧ ∃ k, itN F (k + brL F q) q = itN F k q ∧ k ≤ 20000 ∧ 1 ≤ brL F q ∧ brL F q ≤ 20000 := by
  have hin := itN_in (P := st8) hF h
  obtain ⟨a, b, h1, h2, h3⟩ := pigeon 8192 (fun i => 32 * (itN F i q).1 + (itN F i q).2) (fun i _ => by
    have := hin i
    show 32 * (itN F i q).1 + (itN F i q).2 < 8192
    unfold st8 at this
    omega)
  have hab : itN F a q = itN F b q := by
    have i1 := hin a
    have i2 := hin b
    unfold st8 at i1 i2
    have h3 : 32 * (itN F a q).1 + (itN F a q).2 = 32 * (itN F b q).1 + (itN F b q).2 := h3
    exact Prod.ext (by omega) (by omega)
  have hj : itN F (8191 + (b - a)) q = itN F 8191 q := by
    rw [show 8191 + (b - a) = (8191 - a) + b by omega, itN_add, ← hab, ← itN_add, show 8191 - a + a = 8191 by omega]
  have hne := brN_ends F q hj (by omega) (by omega) 20000 0 1 0 rfl (by omega) (by omega) (fun z => by cases z) (by omega)
  have e : brN F 20000 q q 0 1 = some (brL F q) := by
    unfold brL
    have hne : brN F 20000 q q 0 1 ≠ none := hne
    cases hc : brN F 20000 q q 0 1 with
    | none => exact absurd hc hne
    | some L => rfl
  exact ⟨e, brN_some F q 20000 0 1 _ (by omega) e (by omega)⟩
def tlL (F : NN → NN) (q : NN) : Nat := (tlN F 30000 q (itN F (brL F q) q) 0).getD 0
theorem tlN_ends (F : NN → NN) {q : NN} {L k : Nat} (h : itN F (k + L) q = itN F k q) : ∀ f n, n ≤ k → k < f + n → ∃ t, tlN F f (itN F n q) (itN F (n + L) q) n = some t ∧ t ≤ k := by
  intro f
  induction f with
  | zero => intro n _ _; omega
  | succ f ih =>
    intro n h1 h2
    unfold tlN
    by_cases c : itN F n q = itN F (n + L) q
    · exact ⟨n, if_pos c, h1⟩
    · rw [if_neg c]
      have hn : n ≠ k := fun z => c (by rw [z, h])
      have := ih (n + 1) (by omega) (by omega)
      rw [show n + 1 + L = (n + L) + 1 by omega] at this
      exact this
theorem tlL_is {F : NN → NN} (hF : ∀ q, st8 q → st8 (F q)) {q : NN} (h : st8 q) : tlN F 30000 q (itN F (brL F q) q) 0 = some (tlL F q) ∧ tlL F q ≤ 20000 := by
  obtain ⟨_, k, h1, h2, h3, h4⟩ := brL_is hF h
  obtain ⟨t, h5, h6⟩ := tlN_ends F h1 30000 0 (by omega) (by omega)
  rw [Nat.zero_add] at h5
  have h5 : tlN F 30000 q (itN F (brL F q) q) 0 = some t := h5
  unfold tlL
  rw [h5]
  exact ⟨rfl, by show t ≤ 20000; omega⟩
end
section
/-! the round, walked -/
theorem daI_itN {c : Nat → Nat} {nr ti : Nat} {wf : Nat → Nat} : ∀ n q, daI c nr ti wf n q = itN (da c nr ti wf) n q
  | 0, _ => rfl
  | n + 1, q => by
    show daI c nr ti wf n (da c nr ti wf q) = _
    rw [daI_itN n, show n + 1 = n + 1 from rfl, itN_add _ q 1 n]
    rfl
def FrR (w w' : Wd) : Prop := ∀ t, (∀ p, t ≠ cit 4 p) → (∀ p, t ≠ cit 5 p) → t ≠ sg 10 → w' t = w t
theorem FrR.rf {w : Wd} : FrR w w := fun _ _ _ _ => rfl
theorem FrR.tr {w w1 w2 : Wd} (h1 : FrR w w1) (h2 : FrR w1 w2) : FrR w w2 := fun t a b d => (h2 t a b d).trans (h1 t a b d)
theorem FrR.o4 {w w' : Wd} (h : Fr 4 w w') : FrR w w' := fun t a _ _ => h t a
theorem FrR.o5 {w w' : Wd} (h : Fr 5 w w') : FrR w w' := fun t _ a _ => h t a
theorem FrR.oS {w w' : Wd} (h : FrS w w') : FrR w w' := fun t a _ b => h t a b
theorem FrR.town {w w' : Wd} (h : FrR w w') (p : Nat) : w' (cit 0 p) = w (cit 0 p) := h _ (fun q => cit_k (by decide)) (fun q => cit_k (by decide)) cit_sg
theorem nJ_2mul (m : Nat) : nI m * nI 2 = nI (2 * m) := by rw [pk_mul, Nat.mul_comm]
/-- the trial stands at q -/
def At (w : Wd) (k : Fin 6) (c : Nat → Nat) (nr ti : Nat) (wf : Nat → Nat) (q : NN) : Prop := (∃ dy, CiIs w k c nr ti q.1 q.2 dy wf) ∧ DyOk c nr ti q.1 q.2 wf
theorem At.fr {w w' : Wd} {k : Fin 6} {c : Nat → Nat} {nr ti : Nat} {wf : Nat → Nat} {q : NN} (h : At w k c nr ti wf q) (e : ∀ p, w' (cit k p) = w (cit k p)) : At w' k c nr ti wf q := by
  obtain ⟨⟨dy, h1⟩, h2⟩ := h
  exact ⟨⟨dy, h1.fr e⟩, h2⟩
theorem At.rise {w : Wd} {k : Fin 6} {c : Nat → Nat} {nr ti : Nat} {wf : Nat → Nat} {q : NN} (hc : PlOk c) (h : At w k c nr ti wf q) : ∃ w', Cl 5 jC_rise [vR (cit k 0)] w (none, w') ∧ Fr k w w' ∧ At w' k c nr ti wf (da c nr ti wf q) := by
  obtain ⟨⟨dy, h1⟩, h2⟩ := h
  obtain ⟨w', f1, f2, f3⟩ := sp_rise hc h1 h2
  exact ⟨w', f1, f2, ⟨_, f3⟩, h2.da hc⟩
theorem At.like {w : Wd} {k k' : Fin 6} {c c' : Nat → Nat} {nr ti nr' ti' : Nat} {wf wf' : Nat → Nat} {q q' : NN} (h : At w k c nr ti wf q) (h' : At w k' c' nr' ti' wf' q') : Cl 1 jC_isLike [vR (cit k 0), vR (cit k' 0)] w (some (vI (bI (decide (q = q')))), w) := by
  obtain ⟨⟨dy, h1⟩, h2⟩ := h
  obtain ⟨⟨dy', h1'⟩, h2'⟩ := h'
  exact sp_isLike h1.2.1.2.2.1 h1.2.1.2.2.2.1 h1'.2.1.2.2.1 h1'.2.1.2.2.2.1 h2.2.2.1 h2.2.2.2.1 h2'.2.2.1 h2'.2.2.2.1
theorem sp_roundLength {w : Wd} {c : Nat → Nat} {nr ti o sp dy : Nat} {wf : Nat → Nat} (hc : PlOk c) (h : Now w c nr ti o sp dy wf) (ho : DyOk c nr ti o sp wf) : ∃ w', Cl 7 jS_roundLength [vR (sg 10), vR (cit 0 0)] w (some (vI (nI (brL (da c nr ti wf) (o, sp)))), w') ∧ FrR w w' := by
  obtain ⟨w1, f1, f2, f3⟩ := sp_become (k := 4) (k' := 0) (by decide) hc h.1 h.2
  have h1 := h.fr (fun p => f2.cit (k' := 0) (by decide) p)
  obtain ⟨w2, g1, g2, g3⟩ := sp_become (k := 5) (k' := 0) (by decide) hc h1.1 h1.2
  have key : ∀ f i n m t u L w3, brN (da c nr ti wf) f t u n m = some L → i + 1 = m + n → n < m → i + f ≤ 20000 → FrR w w3 → At w3 4 c nr ti wf t → At w3 5 c nr ti wf u → ∃ w4, FrR w w4 ∧ Rn none 6 jS_roundLength (23, [some (vR (sg 10)), some (vR (cit 0 0)), some (vI (nI n)), some (vI (nI m)), some (vI (nI i))], [], w3) (some (vI (nI L)), w4) := by
    intro f
    induction f with
    | zero => intro i n m t u L w3 h; cases h
    | succ f ih =>
      intro i n m t u L w3 hb hi hn hf hr ht hu
      obtain ⟨w4, a1, a2, a3⟩ := hu.rise hc
      have ht4 := ht.fr (fun p => a2.cit (k' := 4) (by decide) p)
      have hr4 := hr.tr (FrR.o5 a2)
      have head : ∀ r, Rn none 6 jS_roundLength (51, [some (vR (sg 10)), some (vR (cit 0 0)), some (vI (nI (n + 1))), some (vI (nI m)), some (vI (nI i))], [vI (bI (decide (da c nr ti wf u = t)))], w4) r → Rn none 6 jS_roundLength (23, [some (vR (sg 10)), some (vR (cit 0 0)), some (vI (nI n)), some (vI (nI m)), some (vI (nI i))], [], w3) r := by
        intro r k1
        refine Rn.if2f 60 rfl rfl (nI_ge (by omega) (by omega)) ?_
        refine Rn.cv 60 rfl rfl rfl rfl rfl a1 (by decide) ?_
        rw [nI_succ n] at k1
        exact Rn.cv 60 rfl rfl rfl rfl rfl (a3.like ht4) (by decide) k1
      unfold brN at hb
      by_cases c1 : da c nr ti wf u = t
      · rw [if_pos c1] at hb
        cases hb
        refine ⟨w4, hr4, head _ ?_⟩
        rw [decide_eq_true c1]
        refine Rn.if1f 60 rfl rfl (by dsimp only [tm_c2P]; decide) ?_
        exact Rn.ir 60 rfl rfl rfl rfl
      · rw [if_neg c1] at hb
        rw [decide_eq_false c1] at head
        by_cases c2 : n + 1 = m
        · rw [if_pos c2] at hb
          obtain ⟨⟨dyt, t1⟩, t2⟩ := ht4
          obtain ⟨⟨dyu, u1⟩, u2⟩ := a3
          obtain ⟨w5, b1, b2, b3⟩ := sp_beginAs (k := 4) (k' := 5) (by decide) hc t1.1 t1.2.2 u1.2.1
          have hu5 : At w5 5 c nr ti wf (da c nr ti wf u) := ⟨⟨dyu, u1.fr (fun p => b2.cit (k' := 5) (by decide) p)⟩, u2⟩
          obtain ⟨w6, d1, d2⟩ := ih (i + 1) 0 (2 * m) _ _ L w5 hb (by omega) (by omega) (by omega) (hr4.tr (FrR.o4 b2)) ⟨⟨_, b3⟩, u2⟩ hu5
          refine ⟨w6, d1, head _ ?_⟩
          refine Rn.if1t 60 rfl rfl (by dsimp only [tm_c2P]; decide) ?_
          refine Rn.if2f 60 rfl rfl (fun z => z (by rw [c2])) ?_
          refine Rn.cv 60 rfl rfl rfl rfl rfl b1 (by decide) ?_
          rw [← nJ_2mul, nI_succ i] at d2
          exact Rn.at 8 rfl d2
        · rw [if_neg c2] at hb
          obtain ⟨w6, d1, d2⟩ := ih (i + 1) (n + 1) m _ _ L w4 hb (by omega) (by omega) (by omega) hr4 ht4 a3
          refine ⟨w6, d1, head _ ?_⟩
          refine Rn.if1t 60 rfl rfl (by dsimp only [tm_c2P]; decide) ?_
          refine Rn.if2t 60 rfl rfl (by dsimp only [tm_c2P]; rw [nI_eq (by omega) (by omega)]; exact c2) ?_
          rw [nI_succ i] at d2
          exact Rn.at 2 rfl d2
  have hL := (brL_is (F := da c nr ti wf) (fun q hq => da_ok hc hq.2) (q := (o, sp)) ⟨ho.2.2.1, ho.2.2.2.1⟩).1
  obtain ⟨w4, e1, e2⟩ := key 20000 0 0 1 _ _ _ w2 hL (by omega) (by omega) (by omega) ((FrR.o4 f2).tr (FrR.o5 g2)) ⟨⟨_, f3.fr (fun p => g2.cit (k' := 4) (by decide) p)⟩, ho⟩ ⟨⟨_, g3⟩, ho⟩
  refine ⟨w4, ?_, e1⟩
  refine Cl.of rfl rfl rfl (lc := [some (vR (sg 10)), some (vR (cit 0 0)), none, none, none]) rfl ?_
  refine Rn.cv 60 rfl rfl rfl rfl rfl f1 (by decide) ?_
  refine Rn.cv 60 rfl rfl rfl rfl rfl g1 (by decide) ?_
  exact Rn.at 6 rfl e2
theorem sp_roundTail {w : Wd} {c : Nat → Nat} {nr ti o sp dy : Nat} {wf : Nat → Nat} (hc : PlOk c) (h : Now w c nr ti o sp dy wf) (ho : DyOk c nr ti o sp wf) : ∃ w', Cl 7 jS_roundTail [vR (sg 10), vR (cit 0 0), vI (nI (brL (da c nr ti wf) (o, sp)))] w (some (vI (nI (tlL (da c nr ti wf) (o, sp)))), w') ∧ FrR w w' := by
  have hF : ∀ q, st8 q → st8 (da c nr ti wf q) := fun q hq => da_ok hc hq.2
  obtain ⟨_, kk, _, _, _, hL⟩ := brL_is hF (q := (o, sp)) ⟨ho.2.2.1, ho.2.2.2.1⟩
  obtain ⟨hT, hT2⟩ := tlL_is hF (q := (o, sp)) ⟨ho.2.2.1, ho.2.2.2.1⟩
  generalize hl : brL (da c nr ti wf) (o, sp) = ll at *
  obtain ⟨w1, f1, f2, f3⟩ := sp_become (k := 4) (k' := 0) (by decide) hc h.1 h.2
  have h1 := h.fr (fun p => f2.cit (k' := 0) (by decide) p)
  obtain ⟨w2, g1, g2, g3⟩ := sp_become (k := 5) (k' := 0) (by decide) hc h1.1 h1.2
  obtain ⟨w3, i1, i2, i3, i4⟩ := sp_rises hc g3 ho (J := jS_roundTail) (d := 6) (pc := 18) (r0 := sg 0) (fun i => [some (vR (sg 10)), some (vR (cit 0 0)), some (vI (nI ll)), some (vI (nI i))]) ll ll 0 (by omega) (by omega) (fun i w1 w2 r hi hc k1 => by
    refine Rn.if2f 60 rfl rfl (nI_ge hi (by omega)) ?_
    refine Rn.cv 60 rfl rfl rfl rfl rfl hc (by decide) ?_
    rw [nI_succ i] at k1
    exact Rn.at 2 rfl k1)
  rw [daI_itN] at i2 i3
  have key : ∀ f n t u L w3, tlN (da c nr ti wf) f t u n = some L → n + f ≤ 30000 → FrR w w3 → At w3 4 c nr ti wf t → At w3 5 c nr ti wf u → ∃ w4, FrR w w4 ∧ Rn none 6 jS_roundTail (38, [some (vR (sg 10)), some (vR (cit 0 0)), some (vI (nI ll)), some (vI (nI n))], [], w3) (some (vI (nI L)), w4) := by
    intro f
    induction f with
    | zero => intro n t u L w3 h; cases h
    | succ f ih =>
      intro n t u L w3 hb hn hr ht hu
      unfold tlN at hb
      have head : ∀ r, Rn none 6 jS_roundTail (55, [some (vR (sg 10)), some (vR (cit 0 0)), some (vI (nI ll)), some (vI (nI n))], [vI (bI (decide (u = t)))], w3) r → Rn none 6 jS_roundTail (38, [some (vR (sg 10)), some (vR (cit 0 0)), some (vI (nI ll)), some (vI (nI n))], [], w3) r := by
        intro r k1
        refine Rn.if2f 60 rfl rfl (nI_ge (by omega) (by omega)) ?_
        exact Rn.cv 60 rfl rfl rfl rfl rfl (hu.like ht) (by decide) k1
      by_cases c1 : t = u
      · rw [if_pos c1] at hb
        cases hb
        refine ⟨w3, hr, head _ ?_⟩
        rw [decide_eq_true c1.symm]
        refine Rn.if1t 60 rfl rfl (by dsimp only [tm_c2P]; decide) ?_
        exact Rn.ir 60 rfl rfl rfl rfl
      · rw [if_neg c1] at hb
        rw [decide_eq_false (fun z => c1 z.symm)] at head
        obtain ⟨w4, a1, a2, a3⟩ := ht.rise hc
        have hu4 := hu.fr (fun p => a2.cit (k' := 5) (by decide) p)
        obtain ⟨w5, b1, b2, b3⟩ := hu4.rise hc
        have ht5 := a3.fr (fun p => b2.cit (k' := 4) (by decide) p)
        obtain ⟨w6, d1, d2⟩ := ih (n + 1) _ _ L w5 hb (by omega) ((hr.tr (FrR.o4 a2)).tr (FrR.o5 b2)) ht5 b3
        refine ⟨w6, d1, head _ ?_⟩
        refine Rn.if1f 60 rfl rfl (by dsimp only [tm_c2P]; decide) ?_
        refine Rn.cv 60 rfl rfl rfl rfl rfl a1 (by decide) ?_
        refine Rn.cv 60 rfl rfl rfl rfl rfl b1 (by decide) ?_
        rw [nI_succ n] at d2
        exact Rn.at 2 rfl d2
  obtain ⟨w4, e1, e2⟩ := key 30000 0 _ _ _ w3 hT (by omega) (((FrR.o4 f2).tr (FrR.o5 g2)).tr (FrR.o5 i1)) ⟨⟨_, (f3.fr (fun p => g2.cit (k' := 4) (by decide) p)).fr (fun p => i1.cit (k' := 4) (by decide) p)⟩, ho⟩ ⟨⟨_, i2⟩, i3⟩
  refine ⟨w4, ?_, e1⟩
  refine Cl.of rfl rfl rfl (lc := [some (vR (sg 10)), some (vR (cit 0 0)), some (vI (nI ll)), none]) rfl ?_
  refine Rn.cv 60 rfl rfl rfl rfl rfl f1 (by decide) ?_
  refine Rn.cv 60 rfl rfl rfl rfl rfl g1 (by decide) ?_
  refine Rn.at 2 rfl (i4 _ ?_)
  refine Rn.if2t 60 rfl rfl (nI_le (Nat.le_refl _) (by omega)) ?_
  exact Rn.at 2 rfl e2
def clW (w : Wd) (k : Fin 6) : Wd := wset (wset (wset (wset (wset (wset (wset w (cit k 0) 0 (nI 0)) (cit k 0) 3 (nI 0)) (cit k 0) 4 (nI 0)) (cit k 0) 12 (nI 0)) (cit k 0) 13 (nI 0)) (cit k 0) 14 (nI 0)) (cit k 0) 16 (-(nI 1))
theorem sp_clear {w : Wd} {k : Fin 6} : Cl 1 jC_clear [vR (cit k 0)] w (none, clW w k) := by
  refine Cl.of rfl rfl rfl (lc := [some (vR (cit k 0))]) rfl ?_
  exact Rn.vr 60 rfl rfl rfl rfl
end
section
/-! the class beside the reference: what holds of a world between two calls -/
/-- the piece that a place of a cell belongs to: 0 the finding, 1 rows, 2 the tape, 3 the trace, 4 images, 5 the town and its acts, 9 of no piece -/
def own (t : TA) (j : Nat) : Nat := match t with
  | .inl (k, _) => match k.val with | 0 => 5 | 2 => 4 | 3 => 4 | _ => 9
  | .inr (.inl _) => 1
  | .inr (.inr s) => match s with
    | 0 => 0
    | 2 => if j = 1 ∨ j = 2 then 2 else 9
    | 3 => 2 | 5 => 5 | 6 => 5 | 7 => 5 | 8 => 5 | 9 => 5 | 11 => 3 | 12 => 3
    | 13 => if j = 3 then 0 else if j = 5 ∨ j = 8 then 5 else if j = 10 ∨ j = 17 then 2 else if j = 24 then 3 else 9
    | 14 => 1 | 15 => 1 | 16 => 1
    | 17 => if j < 49 then 5 else if j < 147 then 4 else 9
    | 18 => 4 | 19 => 5 | 20 => 2 | 22 => 3
    | _ => 9
def Same (n : Nat) (w w' : Wd) : Prop := ∀ t j, own t j = n → w' t j = w t j
theorem Same.rf {n : Nat} {w : Wd} : Same n w w := fun _ _ _ => rfl
theorem Same.tr {n : Nat} {w w1 w2 : Wd} (h1 : Same n w w1) (h2 : Same n w1 w2) : Same n w w2 := fun t j e => (h2 t j e).trans (h1 t j e)
theorem Same.set {n : Nat} {w : Wd} {t : TA} {k : Nat} {x : Int32} (h : own t k ≠ n) : Same n w (wset w t k x) := fun t' j e => by
  unfold wset
  by_cases h1 : t' = t
  · subst h1
    by_cases h2 : j = k
    · subst h2
      exact absurd e h
    · rw [if_pos rfl, if_neg h2]
  · rw [if_neg h1]
theorem Same.fr {n : Nat} {w w' : Wd} {k : Fin 6} (h : Fr k w w') (hn : ∀ p j, own (cit k p) j ≠ n) : Same n w w' := fun t j e => by
  rw [h t (fun p z => by subst z; exact hn p j e)]
theorem Same.seer {n : Nat} {w w' : Wd} (h : FrR w w') (hn : n ≠ 9) : Same n w w' := fun t j e => by
  rw [h t (fun p z => by subst z; exact hn e.symm) (fun p z => by subst z; exact hn e.symm) (fun z => by subst z; exact hn e.symm)]
/-- what the reference writes of foretelling alone -/
def FinI (w : Wd) : Prop := w (sg 0) 8 = w (sg 13) 3
def RowI (w : Wd) (r : Nat) : Prop := (w (rw_ (Fin.ofNat 8 r) 0) 1 = nI 0 ∧ w (sg 14) r = nI 0) ∨ (w (rw_ (Fin.ofNat 8 r) 0) 1 = nI 1 ∧ ∃ l n, l ≤ 2 ∧ n ≤ 40 ∧ w (rw_ (Fin.ofNat 8 r) 0) 2 = nI l ∧ w (sg 14) r = nI (l + 1) ∧ w (rw_ (Fin.ofNat 8 r) 0) 3 = nI n ∧ w (sg 15) r = nI n ∧ ∀ i, i < 40 → w (rw_ (Fin.ofNat 8 r) 1) i = w (sg 16) (40 * r + i))
def RowsI (w : Wd) : Prop := ∀ r, r < 8 → RowI w r
def TapI (w : Wd) : Prop := w (sg 2) 2 = w (sg 13) 17 ∧ ∃ n, n ≤ 160 ∧ w (sg 2) 1 = nI n ∧ w (sg 13) 10 = nI n ∧ ∀ i, i < n → ∃ v, v < 256 ∧ w (sg 3) i = nI v ∧ w (sg 20) i = vp_nar .byte (nI v)
def TraI (w : Wd) : Prop := ∃ n, n ≤ 16 ∧ w (sg 11) 1 = nI n ∧ w (sg 13) 24 = nI n ∧ ∀ i, i < n → w (sg 12) i = w (sg 22) i
def MaIs (w : Wd) (b : Nat) (c : Nat → Nat) (nr ti o sp dy : Nat) (wf : Nat → Nat) : Prop := w (sg 17) b = nI (c 0) ∧ w (sg 17) (b + 1) = nI nr ∧ w (sg 17) (b + 2) = nI ti ∧ w (sg 17) (b + 3) = nI (c 3) ∧ w (sg 17) (b + 4) = nI (c 4) ∧ w (sg 17) (b + 5) = nI dy ∧ w (sg 17) (b + 6) = nI o ∧ w (sg 17) (b + 7) = nI sp ∧ (∀ g, g < c 3 → w (sg 17) (b + (8 + 2 * g)) = nI (c (8 + 2 * g)) ∧ w (sg 17) (b + (9 + 2 * g)) = nI (c (9 + 2 * g))) ∧ ∀ p, p < c 4 → w (sg 17) (b + (24 + 5 * p)) = nI (so c p) ∧ w (sg 17) (b + (25 + 5 * p)) = nI (ho c p) ∧ w (sg 17) (b + (26 + 5 * p)) = nI (er c p) ∧ w (sg 17) (b + (27 + 5 * p)) = nI (wf p) ∧ w (sg 17) (b + (28 + 5 * p)) = nI (we c p)
def CtOk (c : Nat → Nat) (nr ti o sp dy : Nat) (wf : Nat → Nat) : Prop := PlOk c ∧ DyOk c nr ti o sp wf ∧ dy ≤ 999 ∧ ∀ p, p < c 4 → 1 ≤ so c p
def ImgI (w : Wd) (k : Nat) : Prop := (w (cit (Fin.ofNat 6 (2 + k)) 0) 0 = nI 0 ∧ w (sg 18) k = nI 0) ∨ (w (sg 18) k = nI 1 ∧ ∃ c nr ti o sp dy wf, CtOk c nr ti o sp dy wf ∧ 0 < c 0 ∧ CiIs w (Fin.ofNat 6 (2 + k)) c nr ti o sp dy wf ∧ MaIs w (49 * (1 + k)) c nr ti o sp dy wf)
def ImgsI (w : Wd) : Prop := ∀ k, k < 2 → ImgI w k
/-- the acts, the oldest first: S i is what was before the act i: open, spent, day, wishes -/
abbrev Sn := Nat × Nat × Nat × (Nat → Nat)
def AcC (w : Wd) (P m x : Nat) (S : Nat → Sn) : Prop := w (sg 5) 0 = nI m ∧ w (sg 5) 1 = nI x ∧ ∀ i, i < m → w (sg 6) ((x + 24 - m + i) % 24) = nI (S i).1 ∧ w (sg 7) ((x + 24 - m + i) % 24) = nI (S i).2.1 ∧ w (sg 8) ((x + 24 - m + i) % 24) = nI (S i).2.2.1 ∧ ∀ p, p < P → w (sg 9) (5 * ((x + 24 - m + i) % 24) + p) = nI ((S i).2.2.2 p)
/-- one act of the reference: it says what to put back -/
def AcM1 (w : Wd) (P i : Nat) (s : Sn) (wf : Nat → Nat) : Prop := w (sg 19) (5 * i) = nI s.1 ∧ w (sg 19) (5 * i + 1) = nI s.2.1 ∧ w (sg 19) (5 * i + 2) = nI s.2.2.1 ∧ ((w (sg 19) (5 * i + 3) = -(nI 1000000) ∧ ∀ p, p < P → s.2.2.2 p = wf p) ∨ ∃ q v, q < P ∧ w (sg 19) (5 * i + 3) = nI q ∧ w (sg 19) (5 * i + 4) = nI v ∧ ∀ p, p < P → s.2.2.2 p = upW wf q v p)
def AcM (w : Wd) (P m : Nat) (S : Nat → Sn) (wf : Nat → Nat) : Prop := w (sg 13) 8 = nI m ∧ ∀ i, i < m → AcM1 w P i (S i) (if i + 1 = m then wf else (S (i + 1)).2.2.2)
def ActI (w : Wd) (c : Nat → Nat) (nr ti : Nat) (wf : Nat → Nat) : Prop := ∃ m x S, m ≤ 24 ∧ x < 24 ∧ AcC w (c 4) m x S ∧ AcM w (c 4) m S wf ∧ ∀ i, i < m → CtOk c nr ti (S i).1 (S i).2.1 (S i).2.2.1 (S i).2.2.2
def TwnI (w : Wd) : Prop := w (sg 13) 5 = nI 0 ∧ ∃ c nr ti o sp dy wf, CtOk c nr ti o sp dy wf ∧ CiIs w 0 c nr ti o sp dy wf ∧ MaIs w 0 c nr ti o sp dy wf ∧ ActI w c nr ti wf
def Inv (w : Wd) : Prop := FinI w ∧ RowsI w ∧ TapI w ∧ TraI w ∧ ImgsI w ∧ TwnI w
theorem FinI.same {w w' : Wd} (h : FinI w) (e : Same 0 w w') : FinI w' := by
  unfold FinI at *
  rw [e _ _ rfl, e _ _ rfl]
  exact h
theorem RowI.same {w w' : Wd} {r : Nat} (h : RowI w r) (e : Same 1 w w') : RowI w' r := by
  rcases h with ⟨h1, h2⟩ | ⟨h1, l, n, h2, h3, h4, h5, h6, h7, h8⟩
  · exact Or.inl ⟨(e _ _ rfl).trans h1, (e _ _ rfl).trans h2⟩
  · exact Or.inr ⟨(e _ _ rfl).trans h1, l, n, h2, h3, (e _ _ rfl).trans h4, (e _ _ rfl).trans h5, (e _ _ rfl).trans h6, (e _ _ rfl).trans h7, fun i hi => by rw [e _ _ rfl, e _ _ rfl]; exact h8 i hi⟩
theorem RowsI.same {w w' : Wd} (h : RowsI w) (e : Same 1 w w') : RowsI w' := fun r hr => (h r hr).same e
theorem TapI.same {w w' : Wd} (h : TapI w) (e : Same 2 w w') : TapI w' := by
  obtain ⟨h1, n, h2, h3, h4, h5⟩ := h
  exact ⟨by rw [e _ _ rfl, e _ _ rfl]; exact h1, n, h2, (e _ _ rfl).trans h3, (e _ _ rfl).trans h4, fun i hi => by rw [e _ _ rfl, e _ _ rfl]; exact h5 i hi⟩
theorem TraI.same {w w' : Wd} (h : TraI w) (e : Same 3 w w') : TraI w' := by
  obtain ⟨n, h2, h3, h4, h5⟩ := h
  exact ⟨n, h2, (e _ _ rfl).trans h3, (e _ _ rfl).trans h4, fun i hi => by rw [e _ _ rfl, e _ _ rfl]; exact h5 i hi⟩
theorem MaIs.of {w w' : Wd} {b : Nat} {c : Nat → Nat} {nr ti o sp dy : Nat} {wf : Nat → Nat} (hc : PlOk c) (h : MaIs w b c nr ti o sp dy wf) (e : ∀ j, j < 49 → w' (sg 17) (b + j) = w (sg 17) (b + j)) : MaIs w' b c nr ti o sp dy wf := by
  obtain ⟨h1, h2, h3, h4, h5, h6, h7, h8, h9, h10⟩ := h
  have e3 := hc.2.1
  have e4 := hc.2.2.1
  refine ⟨(e 0 (by decide)).trans h1, (e 1 (by decide)).trans h2, (e 2 (by decide)).trans h3, (e 3 (by decide)).trans h4, (e 4 (by decide)).trans h5, (e 5 (by decide)).trans h6, (e 6 (by decide)).trans h7, (e 7 (by decide)).trans h8, fun g hg => ?_, fun p hp => ?_⟩
  · obtain ⟨a1, a2⟩ := h9 g hg
    exact ⟨(e _ (by omega)).trans a1, (e _ (by omega)).trans a2⟩
  · obtain ⟨a1, a2, a3, a4, a5⟩ := h10 p hp
    exact ⟨(e _ (by omega)).trans a1, (e _ (by omega)).trans a2, (e _ (by omega)).trans a3, (e _ (by omega)).trans a4, (e _ (by omega)).trans a5⟩
theorem CiIs.fr2 {w w' : Wd} {k : Fin 6} {c : Nat → Nat} {nr ti o sp dy : Nat} {wf : Nat → Nat} (h : CiIs w k c nr ti o sp dy wf) (e : ∀ p j, w' (cit k p) j = w (cit k p) j) : CiIs w' k c nr ti o sp dy wf := h.fr (fun p => funext (e p))
theorem ImgI.same {w w' : Wd} {k : Nat} (hk : k < 2) (h : ImgI w k) (e : Same 4 w w') : ImgI w' k := by
  have ho : ∀ p j, own (cit (Fin.ofNat 6 (2 + k)) p) j = 4 := by
    rcases (by omega : k = 0 ∨ k = 1) with rfl | rfl <;> exact fun _ _ => rfl
  rcases h with ⟨h1, h2⟩ | ⟨h1, c, nr, ti, o, sp, dy, wf, h2, h3, h4, h5⟩
  · exact Or.inl ⟨(e _ _ (ho _ _)).trans h1, (e _ _ rfl).trans h2⟩
  · refine Or.inr ⟨(e _ _ rfl).trans h1, c, nr, ti, o, sp, dy, wf, h2, h3, h4.fr2 (fun p j => e _ _ (ho _ _)), h5.of h2.1 (fun j hj => e _ _ ?_)⟩
    show (if 49 * (1 + k) + j < 49 then 5 else if 49 * (1 + k) + j < 147 then 4 else 9) = 4
    rw [if_neg (by omega), if_pos (by omega)]
theorem ImgsI.same {w w' : Wd} (h : ImgsI w) (e : Same 4 w w') : ImgsI w' := fun k hk => (h k hk).same hk e
theorem AcC.of {w w' : Wd} {P m x : Nat} {S : Nat → Sn} (h : AcC w P m x S) (e : ∀ s, 5 ≤ s → s ≤ 9 → ∀ j, w' (sg s) j = w (sg s) j) : AcC w' P m x S := by
  obtain ⟨h1, h2, h3⟩ := h
  refine ⟨(e 5 (by decide) (by decide) _).trans h1, (e 5 (by decide) (by decide) _).trans h2, fun i hi => ?_⟩
  obtain ⟨a1, a2, a3, a4⟩ := h3 i hi
  exact ⟨(e 6 (by decide) (by decide) _).trans a1, (e 7 (by decide) (by decide) _).trans a2, (e 8 (by decide) (by decide) _).trans a3, fun p hp => (e 9 (by decide) (by decide) _).trans (a4 p hp)⟩
theorem AcM1.of {w w' : Wd} {P i i' : Nat} {s : Sn} {wf : Nat → Nat} (h : AcM1 w P i s wf) (e : ∀ j, j < 5 → w' (sg 19) (5 * i' + j) = w (sg 19) (5 * i + j)) : AcM1 w' P i' s wf := by
  obtain ⟨h1, h2, h3, h4⟩ := h
  refine ⟨(e 0 (by decide)).trans h1, (e 1 (by decide)).trans h2, (e 2 (by decide)).trans h3, ?_⟩
  rcases h4 with ⟨a1, a2⟩ | ⟨q, v, a1, a2, a3, a4⟩
  · exact Or.inl ⟨(e 3 (by decide)).trans a1, a2⟩
  · exact Or.inr ⟨q, v, a1, (e 3 (by decide)).trans a2, (e 4 (by decide)).trans a3, a4⟩
theorem ActI.of {w w' : Wd} {c : Nat → Nat} {nr ti : Nat} {wf : Nat → Nat} (h : ActI w c nr ti wf) (e : ∀ s, 5 ≤ s → s ≤ 9 → ∀ j, w' (sg s) j = w (sg s) j) (e13 : w' (sg 13) 8 = w (sg 13) 8) (e19 : ∀ j, w' (sg 19) j = w (sg 19) j) : ActI w' c nr ti wf := by
  obtain ⟨m, x, S, h1, h2, h3, h4, h5⟩ := h
  exact ⟨m, x, S, h1, h2, h3.of e, ⟨e13.trans h4.1, fun i hi => (h4.2 i hi).of (fun j _ => e19 _)⟩, h5⟩
theorem own_acts : ∀ s, 5 ≤ s → s ≤ 9 → ∀ j, own (sg s) j = 5 := by
  intro s h1 h2 j
  rcases (by omega : s = 5 ∨ s = 6 ∨ s = 7 ∨ s = 8 ∨ s = 9) with rfl | rfl | rfl | rfl | rfl <;> rfl
theorem own_now {j : Nat} (h : j < 49) : own (sg 17) j = 5 := if_pos h
theorem TwnI.same {w w' : Wd} (h : TwnI w) (e : Same 5 w w') : TwnI w' := by
  obtain ⟨h1, c, nr, ti, o, sp, dy, wf, h2, h3, h4, h5⟩ := h
  exact ⟨(e _ _ rfl).trans h1, c, nr, ti, o, sp, dy, wf, h2, h3.fr2 (fun p j => e _ _ rfl), h4.of h2.1 (fun j hj => e _ _ (own_now (by omega))), h5.of (fun s s1 s2 j => e _ _ (own_acts s s1 s2 j)) (e _ _ rfl) (fun j => e _ _ rfl)⟩
theorem Inv.same {w w' : Wd} (h : Inv w) (e : ∀ n, n ≤ 5 → Same n w w') : Inv w' := ⟨h.1.same (e 0 (by decide)), h.2.1.same (e 1 (by decide)), h.2.2.1.same (e 2 (by decide)), h.2.2.2.1.same (e 3 (by decide)), h.2.2.2.2.1.same (e 4 (by decide)), h.2.2.2.2.2.same (e 5 (by decide))⟩
/-- a call of the class and the same call of the reference: the answers are one, and all stays beside -/
def Op (jx jm : Nat) (as : List AV) : Prop := ∀ w, Inv w → ∃ w1 w2 v, Cl 20 jx (vR (sg 0) :: as) w (some (vI v), w1) ∧ Cl 20 jm (vR (sg 13) :: as) w1 (some (vI v), w2) ∧ Inv w2
-- what both sides share
theorem x_within {w : Wd} {x y : Int32} : Cl 1 jX_isWithin [vI x, vI y] w (some (vI (bI (decide (0 ≤ x) && decide (x < y)))), w) := by
  refine Cl.of rfl rfl rfl (lc := [some (vI x), some (vI y)]) rfl ?_
  refine Rn.if1 60 rfl rfl (fun h => ?_) (fun h => ?_)
  · dsimp only [tm_c2P] at h
    rw [decide_eq_false (Int32.not_le.mpr h)]
    exact Rn.zr 60 rfl rfl rfl (by decide) rfl
  · dsimp only [tm_c2P] at h
    rw [decide_eq_true (Int32.not_lt.mp h)]
    refine Rn.if2 60 rfl rfl (fun h2 => ?_) (fun h2 => ?_)
    · dsimp only [tm_c2P] at h2
      rw [decide_eq_false (Int32.not_lt.mpr h2)]
      exact Rn.zr 60 rfl rfl rfl (by decide) rfl
    · dsimp only [tm_c2P] at h2
      rw [decide_eq_true (Int32.not_le.mp h2)]
      exact Rn.zr 60 rfl rfl rfl (by decide) rfl
theorem x_no {w : Wd} {x : Int32} {n : Nat} (hn : n < 2 ^ 31) (h : x < 0 ∨ nI n ≤ x) : Cl 1 jX_isWithin [vI x, vI (nI n)] w (some (vI (bI false)), w) := by
  have k := x_within (w := w) (x := x) (y := nI n)
  rcases h with h | h
  · rw [decide_eq_false (Int32.not_le.mpr h)] at k
    exact k
  · rw [decide_eq_false (Int32.not_lt.mpr h), Bool.and_false] at k
    exact k
theorem x_yes {w : Wd} {j n : Nat} (hn : n < 2 ^ 31) (h : j < n) : Cl 1 jX_isWithin [vI (nI j), vI (nI n)] w (some (vI (bI true)), w) := by
  have k := x_within (w := w) (x := nI j) (y := nI n)
  rw [decide_eq_true (nI_pos' (by omega)), decide_eq_true (nI_lt h hn)] at k
  exact k
theorem m_in {w : Wd} {x y z : Int32} : Cl 1 jM_in [vI x, vI y, vI z] w (some (vI (bI (decide (y ≤ x) && decide (x ≤ z)))), w) := by
  refine Cl.of rfl rfl rfl (lc := [some (vI x), some (vI y), some (vI z)]) rfl ?_
  refine Rn.if2 60 rfl rfl (fun h => ?_) (fun h => ?_)
  · dsimp only [tm_c2P] at h
    rw [decide_eq_false (Int32.not_le.mpr h)]
    exact Rn.zr 60 rfl rfl rfl (by decide) rfl
  · dsimp only [tm_c2P] at h
    rw [decide_eq_true (Int32.not_lt.mp h)]
    refine Rn.if2 60 rfl rfl (fun h2 => ?_) (fun h2 => ?_)
    · dsimp only [tm_c2P] at h2
      rw [decide_eq_false (Int32.not_le.mpr h2)]
      exact Rn.zr 60 rfl rfl rfl (by decide) rfl
    · dsimp only [tm_c2P] at h2
      rw [decide_eq_true (Int32.not_lt.mp h2)]
      exact Rn.zr 60 rfl rfl rfl (by decide) rfl
theorem nI_lt1 {x : Int32} {n : Nat} (hn : n + 1 < 2 ^ 31) (h : nI (n + 1) ≤ x) : nI n < x := Int32.lt_of_lt_of_le (nI_lt (Nat.lt_succ_self n) hn) h
theorem m_no {w : Wd} {x : Int32} {n : Nat} (hn : n + 1 < 2 ^ 31) (h : x < 0 ∨ nI (n + 1) ≤ x) : Cl 1 jM_in [vI x, vI (nI 0), vI (nI n)] w (some (vI (bI false)), w) := by
  have k := m_in (w := w) (x := x) (y := nI 0) (z := nI n)
  rcases h with h | h
  · rw [decide_eq_false (show ¬ nI 0 ≤ x from Int32.not_le.mpr h)] at k
    exact k
  · rw [decide_eq_false (Int32.not_le.mpr (nI_lt1 hn h)), Bool.and_false] at k
    exact k
theorem m_yes {w : Wd} {j n : Nat} (hn : n < 2 ^ 31) (h : j ≤ n) : Cl 1 jM_in [vI (nI j), vI (nI 0), vI (nI n)] w (some (vI (bI true)), w) := by
  have k := m_in (w := w) (x := nI j) (y := nI 0) (z := nI n)
  rw [decide_eq_true (show nI 0 ≤ nI j from nI_pos' (by omega)), decide_eq_true (nI_le h hn)] at k
  exact k
theorem x_found {w : Wd} {x : Int32} : Cl 1 jX_found [vR (sg 0), vI x] w (some (vI (-(nI 1000010) - x)), wset w (sg 0) 8 x) := by
  refine Cl.of rfl rfl rfl (lc := [some (vR (sg 0)), some (vI x)]) rfl ?_
  exact Rn.ir 60 rfl rfl rfl rfl
theorem x_clean {w : Wd} {x : Int32} : Cl 1 jX_clean [vR (sg 0), vI x] w (some (vI x), wset w (sg 0) 8 (nI 0)) := by
  refine Cl.of rfl rfl rfl (lc := [some (vR (sg 0)), some (vI x)]) rfl ?_
  exact Rn.ir 60 rfl rfl rfl rfl
theorem m_finds {w : Wd} {x : Int32} : Cl 1 jM_finds [vR (sg 13), vI x] w (some (vI (-(nI 1000010) - x)), wset w (sg 13) 3 x) := by
  refine Cl.of rfl rfl rfl (lc := [some (vR (sg 13)), some (vI x)]) rfl ?_
  exact Rn.ir 60 rfl rfl rfl rfl
theorem m_well {w : Wd} {x : Int32} : Cl 1 jM_well [vR (sg 13), vI x] w (some (vI x), wset w (sg 13) 3 (nI 0)) := by
  refine Cl.of rfl rfl rfl (lc := [some (vR (sg 13)), some (vI x)]) rfl ?_
  exact Rn.ir 60 rfl rfl rfl rfl
theorem m_isRow_no {w : Wd} {x : Int32} (h : x < 0 ∨ nI 8 ≤ x) : Cl 2 jM_isRow [vI x] w (some (vI (bI false)), w) := by
  refine Cl.of rfl rfl rfl (lc := [some (vI x)]) rfl ?_
  refine Rn.cs 60 rfl rfl rfl rfl (m_no (n := 7) (by decide) h) (by decide) ?_
  exact Rn.zr 60 rfl rfl rfl (by decide) rfl
theorem m_isRow_yes {w : Wd} {j : Nat} (h : j < 8) : Cl 2 jM_isRow [vI (nI j)] w (some (vI (bI true)), w) := by
  refine Cl.of rfl rfl rfl (lc := [some (vI (nI j))]) rfl ?_
  refine Rn.cs 60 rfl rfl rfl rfl (m_yes (n := 7) (by decide) (by omega)) (by decide) ?_
  exact Rn.zr 60 rfl rfl rfl (by decide) rfl
/-- nothing was done: both answer alike -/
theorem op_same {jx jm : Nat} {as : List AV} {w : Wd} {v : Int32} (hi : Inv w) (h1 : Cl 20 jx (vR (sg 0) :: as) w (some (vI v), w)) (h2 : Cl 20 jm (vR (sg 13) :: as) w (some (vI v), w)) : ∃ w1 w2 v, Cl 20 jx (vR (sg 0) :: as) w (some (vI v), w1) ∧ Cl 20 jm (vR (sg 13) :: as) w1 (some (vI v), w2) ∧ Inv w2 := ⟨w, w, v, h1, h2, hi⟩
theorem Inv.fin {w : Wd} {x : Int32} (h : Inv w) : Inv (wset (wset w (sg 0) 8 x) (sg 13) 3 x) := by
  have e : ∀ n, n ≠ 0 → Same n w (wset (wset w (sg 0) 8 x) (sg 13) 3 x) := fun n hn => (Same.set (fun z => hn z.symm)).tr (Same.set (fun z => hn z.symm))
  refine ⟨?_, h.2.1.same (e 1 (by decide)), h.2.2.1.same (e 2 (by decide)), h.2.2.2.1.same (e 3 (by decide)), h.2.2.2.2.1.same (e 4 (by decide)), h.2.2.2.2.2.same (e 5 (by decide))⟩
  show wset (wset w (sg 0) 8 x) (sg 13) 3 x (sg 0) 8 = wset (wset w (sg 0) 8 x) (sg 13) 3 x (sg 13) 3
  rw [wset_s, wset_ne (by decide), wset_s]
/-- a finding: told by both -/
theorem op_found {jx jm : Nat} {as : List AV} {w : Wd} {v x : Int32} (hi : Inv w) (h1 : Cl 20 jx (vR (sg 0) :: as) w (some (vI v), wset w (sg 0) 8 x)) (h2 : Cl 20 jm (vR (sg 13) :: as) (wset w (sg 0) 8 x) (some (vI v), wset (wset w (sg 0) 8 x) (sg 13) 3 x)) : ∃ w1 w2 v, Cl 20 jx (vR (sg 0) :: as) w (some (vI v), w1) ∧ Cl 20 jm (vR (sg 13) :: as) w1 (some (vI v), w2) ∧ Inv w2 := ⟨_, _, v, h1, h2, hi.fin⟩
end
section
/-! the rows: row, set, copy, drop -/
theorem RowI.of {w w' : Wd} {r : Nat} (h : RowI w r) (e1 : ∀ p, w' (rw_ (Fin.ofNat 8 r) p) = w (rw_ (Fin.ofNat 8 r) p)) (e14 : w' (sg 14) r = w (sg 14) r) (e15 : w' (sg 15) r = w (sg 15) r) (e16 : ∀ i, i < 40 → w' (sg 16) (40 * r + i) = w (sg 16) (40 * r + i)) : RowI w' r := by
  unfold RowI at *
  rw [e1, e14, e15, e1]
  rcases h with h | ⟨h1, l, n, h2, h3, h4, h5, h6, h7, h8⟩
  · exact Or.inl h
  · exact Or.inr ⟨h1, l, n, h2, h3, h4, h5, h6, h7, fun i hi => by rw [e16 i hi]; exact h8 i hi⟩
theorem Inv.row {w w' : Wd} (h : Inv w) (hf : FinI w') (hr : RowsI w') (e : ∀ n, n ≠ 0 → n ≠ 1 → Same n w w') : Inv w' := ⟨hf, hr, h.2.2.1.same (e 2 (by decide) (by decide)), h.2.2.2.1.same (e 3 (by decide) (by decide)), h.2.2.2.2.1.same (e 4 (by decide) (by decide)), h.2.2.2.2.2.same (e 5 (by decide) (by decide))⟩
theorem rw_ne {r r' : Nat} {p q : Nat} (h1 : r < 8) (h2 : r' < 8) (h : r ≠ r') : rw_ (Fin.ofNat 8 r) p ≠ rw_ (Fin.ofNat 8 r') q := by
  intro z
  have e : (Fin.ofNat 8 r : Fin 8) = Fin.ofNat 8 r' := by
    unfold rw_ at z
    injection z with z
    injection z with z
    exact congrArg Prod.fst z
  have e2 := congrArg Fin.val e
  simp [Fin.ofNat] at e2
  omega
theorem rw_sg {r : Fin 8} {p s : Nat} : rw_ r p ≠ sg s := fun z => by cases z
theorem sg_rw {r : Fin 8} {p s : Nat} : sg s ≠ rw_ r p := fun z => by cases z
theorem rw_p {r : Fin 8} {p q : Nat} (h : p ≠ q) : rw_ r p ≠ rw_ r q := fun z => h (by cases z; rfl)
/-- wset at a run of places -/
def flW (w : Wd) (t : TA) (b : Nat) (v : Nat → Int32) : Nat → Wd
  | 0 => w
  | n + 1 => wset (flW w t b v n) t (b + n) (v n)
theorem flW_in {w : Wd} {t : TA} {b : Nat} {v : Nat → Int32} : ∀ n i, i < n → flW w t b v n t (b + i) = v i
  | 0, i, h => absurd h (by omega)
  | n + 1, i, h => by
    unfold flW
    by_cases e : i = n
    · subst e
      exact wset_s
    · rw [wset_k (by omega)]
      exact flW_in n i (by omega)
theorem flW_out {w : Wd} {t : TA} {b : Nat} {v : Nat → Int32} : ∀ n k, (k < b ∨ b + n ≤ k) → flW w t b v n t k = w t k
  | 0, _, _ => rfl
  | n + 1, k, h => by
    unfold flW
    rw [wset_k (by omega)]
    exact flW_out n k (by omega)
theorem flW_ne {w : Wd} {t t' : TA} {b : Nat} {v : Nat → Int32} (h : t' ≠ t) : ∀ n, flW w t b v n t' = w t'
  | 0 => rfl
  | n + 1 => by
    unfold flW
    rw [wset_ne h]
    exact flW_ne h n
theorem flW_same {m : Nat} {w : Wd} {t : TA} {b : Nat} {v : Nat → Int32} (h : ∀ j, own t j ≠ m) : ∀ n, Same m w (flW w t b v n)
  | 0 => Same.rf
  | n + 1 => (flW_same h n).tr (Same.set (h _))
theorem sp_afill {w : Wd} {r : Fin 8} : Cl 1 jAr_fill [vR (rw_ r 1), vI (nI 0)] w (none, flW w (rw_ r 1) 0 (fun _ => nI 0) 40) := by
  have key : ∀ m i, i + m = 40 → Rn none 0 jAr_fill (5, [some (vR (rw_ r 1)), some (vI (nI 0)), some (vI (nI i)), some (vI (nI 40))], [], flW w (rw_ r 1) 0 (fun _ => nI 0) i) (none, flW w (rw_ r 1) 0 (fun _ => nI 0) 40) := by
    intro m
    induction m with
    | zero =>
      intro i hi
      obtain rfl : i = 40 := by omega
      refine Rn.if2t 60 rfl rfl (nI_le (by omega) (by omega)) ?_
      exact Rn.vr 60 rfl rfl rfl rfl
    | succ m ih =>
      intro i hi
      have k := ih (i + 1) (by omega)
      refine Rn.if2f 60 rfl rfl (nI_ge (by omega) (by omega)) ?_
      refine Rn.as 60 rfl rfl rfl rfl (by omega) ?_
      rw [nI_succ i] at k
      refine Rn.at 2 rfl ?_
      rw [show wset (flW w (rw_ r 1) 0 (fun _ => nI 0) i) (rw_ r 1) i (nI 0) = flW w (rw_ r 1) 0 (fun _ => nI 0) (i + 1) by rw [show flW w (rw_ r 1) 0 (fun _ => nI 0) (i + 1) = wset (flW w (rw_ r 1) 0 (fun _ => nI 0) i) (rw_ r 1) (0 + i) (nI 0) from rfl, Nat.zero_add]]
      exact k
  refine Cl.of rfl rfl rfl (lc := [some (vR (rw_ r 1)), some (vI (nI 0)), none, none]) rfl ?_
  exact Rn.at 5 rfl (key 40 0 (by omega))
def mkW (w : Wd) (r : Fin 8) (l n : Int32) : Wd := flW (wset (wset (wset w (rw_ r 0) 1 (nI 1)) (rw_ r 0) 2 l) (rw_ r 0) 3 n) (rw_ r 1) 0 (fun _ => nI 0) 40
theorem sp_make {w : Wd} {r : Fin 8} {l n : Int32} : Cl 2 jR_make [vR (rw_ r 0), vI l, vI n] w (none, mkW w r l n) := by
  refine Cl.of rfl rfl rfl (lc := [some (vR (rw_ r 0)), some (vI l), some (vI n)]) rfl ?_
  refine Rn.cs 60 rfl rfl rfl rfl sp_afill (by decide) ?_
  exact Rn.vr 60 rfl rfl rfl rfl
theorem m_rowfill {w : Wd} {r : Nat} (hr : r < 8) {a b : AV} {r0 : Rs} (k : Rn none 19 jM_row (80, [some (vR (sg 13)), some (vI (nI r)), some a, some b, some (vI (nI 40))], [], flW w (sg 16) (40 * r) (fun _ => nI 0) 40) r0) : Rn none 19 jM_row (54, [some (vR (sg 13)), some (vI (nI r)), some a, some b, some (vI (nI 0))], [], w) r0 := by
  have key : ∀ m i, i + m = 40 → Rn none 19 jM_row (54, [some (vR (sg 13)), some (vI (nI r)), some a, some b, some (vI (nI i))], [], flW w (sg 16) (40 * r) (fun _ => nI 0) i) r0 := by
    intro m
    induction m with
    | zero =>
      intro i hi
      obtain rfl : i = 40 := by omega
      exact Rn.if2t 60 rfl rfl (nI_le (by omega) (by omega)) k
    | succ m ih =>
      intro i hi
      have k := ih (i + 1) (by omega)
      refine Rn.if2f 60 rfl rfl (nI_ge (by omega) (by omega)) ?_
      refine Rn.as 60 (j := 40 * r + i) rfl rfl rfl (by dsimp only; rw [pk_mul, nI_add]) (by omega) ?_
      rw [nI_succ i] at k
      exact Rn.at 2 rfl k
  exact key 40 0 (by omega)
theorem op_row {x y z : Int32} : Op jX_row jM_row [vI x, vI y, vI z] := by
  intro w hi
  have bad : ∀ {w : Wd}, (x < 0 ∨ nI 8 ≤ x) ∨ (y < 0 ∨ nI 3 ≤ y) ∨ nI 40 < z → Cl 20 jX_row [vR (sg 0), vI x, vI y, vI z] w (some (vI (-(nI 1000001))), w) ∧ Cl 20 jM_row [vR (sg 13), vI x, vI y, vI z] w (some (vI (-(nI 1000001))), w) := by
    intro w h
    constructor
    · refine Cl.of rfl rfl rfl (lc := [some (vR (sg 0)), some (vI x), some (vI y), some (vI z)]) rfl ?_
      by_cases h1 : x < 0 ∨ nI 8 ≤ x
      · refine Rn.cs 60 rfl rfl rfl rfl (x_no (by decide) h1) (by decide) ?_
        refine Rn.if1t 60 rfl rfl (by dsimp only [tm_c2P]; decide) ?_
        exact Rn.ir 60 rfl rfl rfl rfl
      · obtain ⟨j, hj, rfl⟩ := ((pk_ix x (n := 8) (by decide)).resolve_left (fun z => h1 (Or.inl z))).resolve_left (fun z => h1 (Or.inr z))
        refine Rn.cs 60 rfl rfl rfl rfl (x_yes (by decide) hj) (by decide) ?_
        refine Rn.if1f 60 rfl rfl (by dsimp only [tm_c2P]; decide) ?_
        have h := h.resolve_left h1
        refine Rn.if1 60 rfl rfl (fun _ => Rn.ir 60 rfl rfl rfl rfl) (fun h2 => ?_)
        refine Rn.if2 60 rfl rfl (fun _ => Rn.ir 60 rfl rfl rfl rfl) (fun h3 => ?_)
        dsimp only [tm_c2P] at h2 h3
        have hz : nI 40 < z := h.resolve_left (fun q => q.elim h2 (fun q => h3 (nI_lt1 (n := 2) (by decide) q)))
        refine Rn.if2f 60 rfl rfl (Int32.not_le.mpr hz) ?_
        exact Rn.ir 60 rfl rfl rfl rfl
    · refine Cl.of rfl rfl rfl (lc := [some (vR (sg 13)), some (vI x), some (vI y), some (vI z), none]) rfl ?_
      by_cases h1 : x < 0 ∨ nI 8 ≤ x
      · refine Rn.cs 60 rfl rfl rfl rfl (m_isRow_no h1) (by decide) ?_
        refine Rn.if1t 60 rfl rfl (by dsimp only [tm_c2P]; decide) ?_
        exact Rn.ir 60 rfl rfl rfl rfl
      · obtain ⟨j, hj, rfl⟩ := ((pk_ix x (n := 8) (by decide)).resolve_left (fun z => h1 (Or.inl z))).resolve_left (fun z => h1 (Or.inr z))
        refine Rn.cs 60 rfl rfl rfl rfl (m_isRow_yes hj) (by decide) ?_
        refine Rn.if1f 60 rfl rfl (by dsimp only [tm_c2P]; decide) ?_
        have h := h.resolve_left h1
        by_cases h2 : y < 0 ∨ nI 3 ≤ y
        · refine Rn.cs 60 rfl rfl rfl rfl (m_no (n := 2) (by decide) h2) (by decide) ?_
          refine Rn.if1t 60 rfl rfl (by dsimp only [tm_c2P]; decide) ?_
          exact Rn.ir 60 rfl rfl rfl rfl
        · obtain ⟨l, hl, rfl⟩ := ((pk_ix y (n := 3) (by decide)).resolve_left (fun z => h2 (Or.inl z))).resolve_left (fun z => h2 (Or.inr z))
          refine Rn.cs 60 rfl rfl rfl rfl (m_yes (n := 2) (by decide) (by omega)) (by decide) ?_
          refine Rn.if1f 60 rfl rfl (by dsimp only [tm_c2P]; decide) ?_
          refine Rn.if2f 60 rfl rfl (Int32.not_le.mpr (h.resolve_left h2)) ?_
          exact Rn.ir 60 rfl rfl rfl rfl
  by_cases h1 : x < 0 ∨ nI 8 ≤ x
  · obtain ⟨a, b⟩ := bad (w := w) (Or.inl h1)
    exact op_same hi a b
  by_cases h2 : y < 0 ∨ nI 3 ≤ y
  · obtain ⟨a, b⟩ := bad (w := w) (Or.inr (Or.inl h2))
    exact op_same hi a b
  by_cases h3 : nI 40 < z
  · obtain ⟨a, b⟩ := bad (w := w) (Or.inr (Or.inr h3))
    exact op_same hi a b
  clear bad
  obtain ⟨r, hr, rfl⟩ := ((pk_ix x (n := 8) (by decide)).resolve_left (fun z => h1 (Or.inl z))).resolve_left (fun z => h1 (Or.inr z))
  obtain ⟨l, hl, rfl⟩ := ((pk_ix y (n := 3) (by decide)).resolve_left (fun z => h2 (Or.inl z))).resolve_left (fun z => h2 (Or.inr z))
  have cx : ∀ {w : Wd} {r0 : Rs}, Rn none 19 jX_row (27, [some (vR (sg 0)), some (vI (nI r)), some (vI (nI l)), some (vI z)], [], w) r0 → Cl 20 jX_row [vR (sg 0), vI (nI r), vI (nI l), vI z] w r0 := by
    intro w r0 k
    refine Cl.of rfl rfl rfl (lc := [some (vR (sg 0)), some (vI (nI r)), some (vI (nI l)), some (vI z)]) rfl ?_
    refine Rn.cs 60 rfl rfl rfl rfl (x_yes (by decide) hr) (by decide) ?_
    refine Rn.if1f 60 rfl rfl (by dsimp only [tm_c2P]; decide) ?_
    refine Rn.if1f 60 rfl rfl (nI_pos (by omega)) ?_
    refine Rn.if2f 60 rfl rfl (nI_nlt (by omega) (by omega)) ?_
    exact Rn.if2t 60 rfl rfl (Int32.not_lt.mp h3) k
  have cm : ∀ {w : Wd} {r0 : Rs}, Rn none 19 jM_row (25, [some (vR (sg 13)), some (vI (nI r)), some (vI (nI l)), some (vI z), none], [], w) r0 → Cl 20 jM_row [vR (sg 13), vI (nI r), vI (nI l), vI z] w r0 := by
    intro w r0 k
    refine Cl.of rfl rfl rfl (lc := [some (vR (sg 13)), some (vI (nI r)), some (vI (nI l)), some (vI z), none]) rfl ?_
    refine Rn.cs 60 rfl rfl rfl rfl (m_isRow_yes hr) (by decide) ?_
    refine Rn.if1f 60 rfl rfl (by dsimp only [tm_c2P]; decide) ?_
    refine Rn.cs 60 rfl rfl rfl rfl (m_yes (n := 2) (by decide) (by omega)) (by decide) ?_
    refine Rn.if1f 60 rfl rfl (by dsimp only [tm_c2P]; decide) ?_
    exact Rn.if2t 60 rfl rfl (Int32.not_lt.mp h3) k
  by_cases h4 : z < 0
  · refine op_found hi (x := nI 4) (v := -(nI 1000010) - nI 4) (cx ?_) (cm ?_)
    · refine Rn.if1f 60 rfl rfl (Int32.not_le.mpr h4) ?_
      refine Rn.cv 60 rfl rfl rfl rfl rfl x_found (by decide) ?_
      exact Rn.ir 60 rfl rfl rfl rfl
    · refine Rn.if1f 60 rfl rfl (Int32.not_le.mpr h4) ?_
      refine Rn.cv 60 rfl rfl rfl rfl rfl m_finds (by decide) ?_
      exact Rn.ir 60 rfl rfl rfl rfl
  · obtain ⟨n, hn, rfl⟩ := nI_of h4
    have hn40 : n ≤ 40 := by
      have := Int32.not_lt.mp h3
      rw [nJ_le hn (by decide)] at this
      exact this
    refine ⟨wset (mkW w (Fin.ofNat 8 r) (nI l) (nI n)) (sg 0) 8 (nI 0), wset (flW (wset (wset (wset (mkW w (Fin.ofNat 8 r) (nI l) (nI n)) (sg 0) 8 (nI 0)) (sg 14) r (nI l + nI 1)) (sg 15) r (nI n)) (sg 16) (40 * r) (fun _ => nI 0) 40) (sg 13) 3 (nI 0), nI n, cx ?_, cm ?_, ?_⟩
    · refine Rn.if1t 60 rfl rfl (nI_pos' hn) ?_
      refine Rn.row 60 rfl rfl rfl hr ?_
      refine Rn.cv 60 rfl rfl rfl rfl rfl sp_make (by decide) ?_
      refine Rn.cv 60 rfl rfl rfl rfl rfl x_clean (by decide) ?_
      exact Rn.ir 60 rfl rfl rfl rfl
    · refine Rn.if1t 60 rfl rfl (nI_pos' hn) ?_
      refine Rn.as 60 rfl rfl rfl rfl hr ?_
      refine Rn.as 60 rfl rfl rfl rfl hr ?_
      refine Rn.at 2 rfl (m_rowfill hr ?_)
      refine Rn.cv 60 rfl rfl rfl rfl rfl m_well (by decide) ?_
      exact Rn.ir 60 rfl rfl rfl rfl
    · refine hi.row ?_ (fun r' hr' => ?_) (fun n n0 n1 => ?_)
      · unfold FinI
        rw [wset_s, wset_ne (by decide), flW_ne (by decide), wset_ne (by decide), wset_ne (by decide), wset_s]
      · by_cases e : r' = r
        · subst e
          refine Or.inr ⟨?_, l, n, by omega, hn40, ?_, ?_, ?_, ?_, fun i hi => ?_⟩
          · rw [wset_ne rw_sg, flW_ne rw_sg, wset_ne rw_sg, wset_ne rw_sg, wset_ne rw_sg]
            unfold mkW
            rw [flW_ne (rw_p (by decide)), wset_k (by decide), wset_k (by decide), wset_s]
          · rw [wset_ne rw_sg, flW_ne rw_sg, wset_ne rw_sg, wset_ne rw_sg, wset_ne rw_sg]
            unfold mkW
            rw [flW_ne (rw_p (by decide)), wset_k (by decide), wset_s]
          · rw [wset_ne (by decide), flW_ne (by decide), wset_ne (by decide), wset_s, nI_add]
          · rw [wset_ne rw_sg, flW_ne rw_sg, wset_ne rw_sg, wset_ne rw_sg, wset_ne rw_sg]
            unfold mkW
            rw [flW_ne (rw_p (by decide)), wset_s]
          · rw [wset_ne (by decide), flW_ne (by decide), wset_s]
          · have a := flW_in (w := wset (wset (wset w (rw_ (Fin.ofNat 8 r') 0) 1 (nI 1)) (rw_ (Fin.ofNat 8 r') 0) 2 (nI l)) (rw_ (Fin.ofNat 8 r') 0) 3 (nI n)) (t := rw_ (Fin.ofNat 8 r') 1) (b := 0) (v := fun _ => nI 0) 40 i hi
            rw [Nat.zero_add] at a
            rw [wset_ne rw_sg, flW_ne rw_sg, wset_ne rw_sg, wset_ne rw_sg, wset_ne rw_sg, wset_ne (u := sg 16) (t := sg 13) (by decide), flW_in 40 i hi]
            unfold mkW
            exact a
        · refine (hi.2.1 r' hr').of (fun p => ?_) ?_ ?_ (fun i hi => ?_)
          · rw [wset_ne rw_sg, flW_ne rw_sg, wset_ne rw_sg, wset_ne rw_sg, wset_ne rw_sg]
            unfold mkW
            rw [flW_ne (rw_ne hr' hr e), wset_ne (rw_ne hr' hr e), wset_ne (rw_ne hr' hr e), wset_ne (rw_ne hr' hr e)]
          · rw [wset_ne (by decide), flW_ne (by decide), wset_ne (by decide), wset_k e, wset_ne (by decide)]
            unfold mkW
            rw [flW_ne sg_rw, wset_ne sg_rw, wset_ne sg_rw, wset_ne sg_rw]
          · rw [wset_ne (by decide), flW_ne (by decide), wset_k e, wset_ne (by decide), wset_ne (by decide)]
            unfold mkW
            rw [flW_ne sg_rw, wset_ne sg_rw, wset_ne sg_rw, wset_ne sg_rw]
          · rw [wset_ne (by decide), flW_out _ _ (by omega), wset_ne (by decide), wset_ne (by decide), wset_ne (by decide)]
            unfold mkW
            rw [flW_ne sg_rw, wset_ne sg_rw, wset_ne sg_rw, wset_ne sg_rw]
      · refine ((((((((Same.set ?_).tr (Same.set ?_)).tr (Same.set ?_)).tr (flW_same ?_ _)).tr (Same.set ?_)).tr (Same.set ?_)).tr (Same.set ?_)).tr (flW_same ?_ _)).tr (Same.set ?_)
        all_goals first | exact fun z => n1 z.symm | exact fun z => n0 z.symm | exact fun _ z => n1 z.symm
end
section
/-! set, drop -/
theorem pk_or {x : Int32} {n : Nat} (hn : n < 2 ^ 31) : (x < 0 ∨ nI n ≤ x) ∨ ∃ j, j < n ∧ x = nI j := by
  rcases pk_ix x hn with h | h | h
  · exact Or.inl (Or.inl h)
  · exact Or.inl (Or.inr h)
  · exact Or.inr h
def cuN (l : Nat) (v : Int32) : Int32 := if l = 0 then v.toInt8.toInt32 else if l = 1 then v.toInt16.toInt32 else v
theorem sp_cut {w : Wd} {r : Fin 8} {l : Nat} {v : Int32} (hl : l ≤ 2) (h : w (rw_ r 0) 2 = nI l) : Cl 1 jR_cut [vR (rw_ r 0), vI v] w (some (vI (cuN l v)), w) := by
  refine Cl.of rfl rfl rfl (lc := [some (vR (rw_ r 0)), some (vI v)]) rfl ?_
  rcases (by omega : l = 0 ∨ l = 1 ∨ l = 2) with rfl | rfl | rfl
  · refine Rn.lsw 60 (t := 32) rfl rfl (by rw [h]; rfl) ?_
    exact Rn.ir 60 rfl rfl rfl rfl
  · refine Rn.lsw 60 (t := 35) rfl rfl (by rw [h]; rfl) ?_
    exact Rn.ir 60 rfl rfl rfl rfl
  · refine Rn.lsw 60 (t := 38) rfl rfl (by rw [h]; rfl) ?_
    exact Rn.ir 60 rfl rfl rfl rfl
theorem op_set {x y z : Int32} : Op jX_set jM_set [vI x, vI y, vI z] := by
  intro w hi
  rcases pk_or (x := x) (n := 8) (by decide) with h1 | ⟨r, hr, rfl⟩
  · refine op_same hi (v := -(nI 1000001)) ?_ ?_
    · refine Cl.of rfl rfl rfl (lc := [some (vR (sg 0)), some (vI x), some (vI y), some (vI z), none]) rfl ?_
      refine Rn.cs 60 rfl rfl rfl rfl (x_no (by decide) h1) (by decide) ?_
      refine Rn.if1f 60 rfl rfl (by dsimp only [tm_c2P]; decide) ?_
      exact Rn.ir 60 rfl rfl rfl rfl
    · refine Cl.of rfl rfl rfl (lc := [some (vR (sg 13)), some (vI x), some (vI y), some (vI z), none]) rfl ?_
      refine Rn.cs 60 rfl rfl rfl rfl (m_isRow_no h1) (by decide) ?_
      refine Rn.if1f 60 rfl rfl (by dsimp only [tm_c2P]; decide) ?_
      exact Rn.ir 60 rfl rfl rfl rfl
  have cx : ∀ {w : Wd} {r0 : Rs}, Rn none 19 jX_set (20, [some (vR (sg 0)), some (vI (nI r)), some (vI y), some (vI z), some (vR (rw_ (Fin.ofNat 8 r) 0))], [], w) r0 → Cl 20 jX_set [vR (sg 0), vI (nI r), vI y, vI z] w r0 := by
    intro w r0 k
    refine Cl.of rfl rfl rfl (lc := [some (vR (sg 0)), some (vI (nI r)), some (vI y), some (vI z), none]) rfl ?_
    refine Rn.cs 60 rfl rfl rfl rfl (x_yes (by decide) hr) (by decide) ?_
    refine Rn.if1t 60 rfl rfl (by dsimp only [tm_c2P]; decide) ?_
    refine Rn.row 60 rfl rfl rfl hr ?_
    exact Rn.at 1 rfl k
  have cm : ∀ {w : Wd} {r0 : Rs}, Rn none 19 jM_set (16, [some (vR (sg 13)), some (vI (nI r)), some (vI y), some (vI z), none], [vI (w (sg 14) r)], w) r0 → Cl 20 jM_set [vR (sg 13), vI (nI r), vI y, vI z] w r0 := by
    intro w r0 k
    refine Cl.of rfl rfl rfl (lc := [some (vR (sg 13)), some (vI (nI r)), some (vI y), some (vI z), none]) rfl ?_
    refine Rn.cs 60 rfl rfl rfl rfl (m_isRow_yes hr) (by decide) ?_
    refine Rn.if1t 60 rfl rfl (by dsimp only [tm_c2P]; decide) ?_
    exact Rn.al 60 rfl rfl rfl rfl hr k
  rcases hi.2.1 r hr with ⟨g1, g2⟩ | ⟨g1, l, n, hl, hn, g2, g3, g4, g5, g6⟩
  · refine op_found hi (x := nI 1) (v := -(nI 1000010) - nI 1) (cx ?_) (cm ?_)
    · refine Rn.if1f 60 rfl rfl (by rw [g1]; dsimp only [tm_c2P]; decide) ?_
      refine Rn.cv 60 rfl rfl rfl rfl rfl x_found (by decide) ?_
      exact Rn.ir 60 rfl rfl rfl rfl
    · rw [wset_ne (show sg 14 ≠ sg 0 by decide), g2]
      refine Rn.if1f 60 rfl rfl (by dsimp only [tm_c2P]; decide) ?_
      refine Rn.cv 60 rfl rfl rfl rfl rfl m_finds (by decide) ?_
      exact Rn.ir 60 rfl rfl rfl rfl
  have g0 : ¬ nI (l + 1) = 0 := nI_ne0 (by omega) (by omega)
  rcases pk_or (x := y) (n := n) (by omega) with h1 | ⟨i, hin, rfl⟩
  · refine op_found hi (x := nI 2) (v := -(nI 1000010) - nI 2) (cx ?_) (cm ?_)
    · refine Rn.if1t 60 rfl rfl (by rw [g1]; dsimp only [tm_c2P]; decide) ?_
      refine Rn.cs 60 rfl rfl rfl rfl (by rw [g4]; exact x_no (by omega) h1) (by decide) ?_
      refine Rn.if1f 60 rfl rfl (by dsimp only [tm_c2P]; decide) ?_
      refine Rn.cv 60 rfl rfl rfl rfl rfl x_found (by decide) ?_
      exact Rn.ir 60 rfl rfl rfl rfl
    · rw [wset_ne (show sg 14 ≠ sg 0 by decide), g3]
      refine Rn.if1t 60 rfl rfl g0 ?_
      refine Rn.al 60 rfl rfl rfl rfl hr ?_
      have hs : Cl 1 jM_in [vI y, vI (nI 0), vI (nI n - nI 1)] (wset w (sg 0) 8 (nI 2)) (some (vI (bI false)), wset w (sg 0) 8 (nI 2)) := by
        rcases Nat.eq_zero_or_pos n with h0 | h0
        · subst h0
          have k := m_in (w := wset w (sg 0) 8 (nI 2)) (x := y) (y := nI 0) (z := nI 0 - nI 1)
          rcases h1 with h1 | h1
          · rw [decide_eq_false (show ¬ nI 0 ≤ y from Int32.not_le.mpr h1)] at k
            exact k
          · rw [decide_eq_false (show ¬ y ≤ nI 0 - nI 1 from fun z => absurd (Int32.le_trans h1 z) (by decide)), Bool.and_false] at k
            exact k
        · rw [pk_sub (by omega)]
          exact m_no (by omega) (by rw [show n - 1 + 1 = n by omega]; exact h1)
      refine Rn.cs 60 rfl rfl rfl rfl (by rw [wset_ne (show sg 15 ≠ sg 0 by decide), g5]; exact hs) (by decide) ?_
      refine Rn.if1f 60 rfl rfl (by dsimp only [tm_c2P]; decide) ?_
      refine Rn.cv 60 rfl rfl rfl rfl rfl m_finds (by decide) ?_
      exact Rn.ir 60 rfl rfl rfl rfl
  refine ⟨wset (wset w (rw_ (Fin.ofNat 8 r) 1) i (cuN l z)) (sg 0) 8 (nI 0), wset (wset (wset (wset w (rw_ (Fin.ofNat 8 r) 1) i (cuN l z)) (sg 0) 8 (nI 0)) (sg 16) (40 * r + i) (cuN l z)) (sg 13) 3 (nI 0), cuN l z, cx ?_, cm ?_, ?_⟩
  · refine Rn.if1t 60 rfl rfl (by rw [g1]; dsimp only [tm_c2P]; decide) ?_
    refine Rn.cs 60 rfl rfl rfl rfl (by rw [g4]; exact x_yes (by omega) hin) (by decide) ?_
    refine Rn.if1t 60 rfl rfl (by dsimp only [tm_c2P]; decide) ?_
    refine Rn.cv 60 rfl rfl rfl rfl rfl (sp_cut hl g2) (by decide) ?_
    refine Rn.as 60 rfl rfl rfl rfl (by omega) ?_
    refine Rn.al 60 rfl rfl rfl rfl (by omega) ?_
    refine Rn.cv 60 rfl rfl rfl rfl rfl x_clean (by decide) ?_
    rw [wset_s]
    exact Rn.ir 60 rfl rfl rfl rfl
  · have e14 : wset (wset w (rw_ (Fin.ofNat 8 r) 1) i (cuN l z)) (sg 0) 8 (nI 0) (sg 14) r = nI (l + 1) := by rw [wset_ne (by decide), wset_ne sg_rw, g3]
    have e15 : wset (wset w (rw_ (Fin.ofNat 8 r) 1) i (cuN l z)) (sg 0) 8 (nI 0) (sg 15) r = nI n := by rw [wset_ne (by decide), wset_ne sg_rw, g5]
    rw [e14]
    refine Rn.if1t 60 rfl rfl g0 ?_
    refine Rn.al 60 rfl rfl rfl rfl hr ?_
    refine Rn.cs 60 rfl rfl rfl rfl (by rw [e15]; dsimp only; rw [pk_sub (by omega)]; exact m_yes (by omega) (by omega)) (by decide) ?_
    refine Rn.if1t 60 rfl rfl (by dsimp only [tm_c2P]; decide) ?_
    refine Rn.al 60 rfl rfl rfl rfl hr ?_
    rw [e14]
    have fin : ∀ {w : Wd}, Rn none 19 jM_set (78, [some (vR (sg 13)), some (vI (nI r)), some (vI (nI i)), some (vI z), none], [vI (cuN l z)], w) (some (vI (cuN l z)), wset (wset w (sg 16) (40 * r + i) (cuN l z)) (sg 13) 3 (nI 0)) := by
      intro w
      refine Rn.as 60 (j := 40 * r + i) rfl rfl rfl (by dsimp only; rw [pk_mul, nI_add]) (by omega) ?_
      refine Rn.cv 60 rfl rfl rfl rfl rfl m_well (by decide) ?_
      exact Rn.ir 60 rfl rfl rfl rfl
    rcases (by omega : l = 0 ∨ l = 1 ∨ l = 2) with rfl | rfl | rfl
    · refine Rn.if2f 60 rfl rfl (by dsimp only [tm_c2P]; decide) ?_
      exact Rn.at 3 rfl fin
    · refine Rn.if2t 60 rfl rfl (by dsimp only [tm_c2P]; decide) ?_
      refine Rn.al 60 rfl rfl rfl rfl hr ?_
      rw [e14]
      refine Rn.if2f 60 rfl rfl (by dsimp only [tm_c2P]; decide) ?_
      exact Rn.at 3 rfl fin
    · refine Rn.if2t 60 rfl rfl (by dsimp only [tm_c2P]; decide) ?_
      refine Rn.al 60 rfl rfl rfl rfl hr ?_
      rw [e14]
      refine Rn.if2t 60 rfl rfl (by dsimp only [tm_c2P]; decide) ?_
      exact Rn.at 1 rfl fin
  · refine hi.row ?_ (fun r' hr' => ?_) (fun m n0 n1 => ?_)
    · unfold FinI
      rw [wset_s, wset_ne (by decide), wset_ne (by decide), wset_s]
    · by_cases e : r' = r
      · subst e
        refine Or.inr ⟨?_, l, n, hl, hn, ?_, ?_, ?_, ?_, fun j hj => ?_⟩
        · rw [wset_ne rw_sg, wset_ne rw_sg, wset_ne rw_sg, wset_ne (rw_p (by decide)), g1]
        · rw [wset_ne rw_sg, wset_ne rw_sg, wset_ne rw_sg, wset_ne (rw_p (by decide)), g2]
        · rw [wset_ne (by decide), wset_ne (by decide), wset_ne (by decide), wset_ne sg_rw, g3]
        · rw [wset_ne rw_sg, wset_ne rw_sg, wset_ne rw_sg, wset_ne (rw_p (by decide)), g4]
        · rw [wset_ne (by decide), wset_ne (by decide), wset_ne (by decide), wset_ne sg_rw, g5]
        · rw [wset_ne rw_sg, wset_ne rw_sg, wset_ne rw_sg, wset_ne (u := sg 16) (t := sg 13) (by decide)]
          by_cases ej : j = i
          · subst ej
            rw [wset_s, wset_s]
          · rw [wset_k ej, wset_k (by omega), wset_ne (u := sg 16) (t := sg 0) (by decide), wset_ne sg_rw, g6 j hj]
      · refine (hi.2.1 r' hr').of (fun p => ?_) ?_ ?_ (fun j hj => ?_)
        · rw [wset_ne rw_sg, wset_ne rw_sg, wset_ne rw_sg, wset_ne (rw_ne hr' hr e)]
        · rw [wset_ne (by decide), wset_ne (by decide), wset_ne (by decide), wset_ne sg_rw]
        · rw [wset_ne (by decide), wset_ne (by decide), wset_ne (by decide), wset_ne sg_rw]
        · rw [wset_ne (by decide), wset_k (by omega), wset_ne (by decide), wset_ne sg_rw]
    · refine (((Same.set ?_).tr (Same.set ?_)).tr (Same.set ?_)).tr (Same.set ?_)
      all_goals first | exact fun z => n1 z.symm | exact fun z => n0 z.symm
theorem op_drop {x : Int32} : Op jX_drop jM_drop [vI x] := by
  intro w hi
  rcases pk_or (x := x) (n := 8) (by decide) with h1 | ⟨r, hr, rfl⟩
  · refine op_same hi (v := -(nI 1000001)) ?_ ?_
    · refine Cl.of rfl rfl rfl (lc := [some (vR (sg 0)), some (vI x), none]) rfl ?_
      refine Rn.cs 60 rfl rfl rfl rfl (x_no (by decide) h1) (by decide) ?_
      refine Rn.if1f 60 rfl rfl (by dsimp only [tm_c2P]; decide) ?_
      exact Rn.ir 60 rfl rfl rfl rfl
    · refine Cl.of rfl rfl rfl (lc := [some (vR (sg 13)), some (vI x)]) rfl ?_
      refine Rn.cs 60 rfl rfl rfl rfl (m_isRow_no h1) (by decide) ?_
      refine Rn.if1f 60 rfl rfl (by dsimp only [tm_c2P]; decide) ?_
      exact Rn.ir 60 rfl rfl rfl rfl
  have cx : ∀ {w : Wd} {r0 : Rs}, Rn none 19 jX_drop (19, [some (vR (sg 0)), some (vI (nI r)), some (vR (rw_ (Fin.ofNat 8 r) 0))], [], w) r0 → Cl 20 jX_drop [vR (sg 0), vI (nI r)] w r0 := by
    intro w r0 k
    refine Cl.of rfl rfl rfl (lc := [some (vR (sg 0)), some (vI (nI r)), none]) rfl ?_
    refine Rn.cs 60 rfl rfl rfl rfl (x_yes (by decide) hr) (by decide) ?_
    refine Rn.if1t 60 rfl rfl (by dsimp only [tm_c2P]; decide) ?_
    refine Rn.row 60 rfl rfl rfl hr ?_
    exact Rn.at 1 rfl k
  have cm : ∀ {w : Wd} {r0 : Rs}, Rn none 19 jM_drop (16, [some (vR (sg 13)), some (vI (nI r))], [vI (w (sg 14) r)], w) r0 → Cl 20 jM_drop [vR (sg 13), vI (nI r)] w r0 := by
    intro w r0 k
    refine Cl.of rfl rfl rfl (lc := [some (vR (sg 13)), some (vI (nI r))]) rfl ?_
    refine Rn.cs 60 rfl rfl rfl rfl (m_isRow_yes hr) (by decide) ?_
    refine Rn.if1t 60 rfl rfl (by dsimp only [tm_c2P]; decide) ?_
    exact Rn.al 60 rfl rfl rfl rfl hr k
  rcases hi.2.1 r hr with ⟨g1, g2⟩ | ⟨g1, l, n, hl, hn, g2, g3, g4, g5, g6⟩
  · refine op_found hi (x := nI 1) (v := -(nI 1000010) - nI 1) (cx ?_) (cm ?_)
    · refine Rn.if1f 60 rfl rfl (by rw [g1]; dsimp only [tm_c2P]; decide) ?_
      refine Rn.cv 60 rfl rfl rfl rfl rfl x_found (by decide) ?_
      exact Rn.ir 60 rfl rfl rfl rfl
    · rw [wset_ne (show sg 14 ≠ sg 0 by decide), g2]
      refine Rn.if1f 60 rfl rfl (by dsimp only [tm_c2P]; decide) ?_
      refine Rn.cv 60 rfl rfl rfl rfl rfl m_finds (by decide) ?_
      exact Rn.ir 60 rfl rfl rfl rfl
  refine ⟨wset (wset w (rw_ (Fin.ofNat 8 r) 0) 1 (nI 0)) (sg 0) 8 (nI 0), wset (wset (wset (wset w (rw_ (Fin.ofNat 8 r) 0) 1 (nI 0)) (sg 0) 8 (nI 0)) (sg 14) r (nI 0)) (sg 13) 3 (nI 0), nI n, cx ?_, cm ?_, ?_⟩
  · refine Rn.if1t 60 rfl rfl (by rw [g1]; dsimp only [tm_c2P]; decide) ?_
    refine Rn.cv 60 rfl rfl rfl rfl rfl x_clean (by decide) ?_
    rw [wset_k (by decide), g4]
    exact Rn.ir 60 rfl rfl rfl rfl
  · rw [wset_ne (show sg 14 ≠ sg 0 by decide), wset_ne sg_rw, g3]
    refine Rn.if1t 60 rfl rfl (nI_ne0 (by omega) (by omega)) ?_
    refine Rn.as 60 rfl rfl rfl rfl hr ?_
    refine Rn.al 60 rfl rfl rfl rfl hr ?_
    refine Rn.cv 60 rfl rfl rfl rfl rfl m_well (by decide) ?_
    rw [wset_ne (show sg 15 ≠ sg 14 by decide), wset_ne (show sg 15 ≠ sg 0 by decide), wset_ne sg_rw, g5]
    exact Rn.ir 60 rfl rfl rfl rfl
  · refine hi.row ?_ (fun r' hr' => ?_) (fun m n0 n1 => ?_)
    · unfold FinI
      rw [wset_s, wset_ne (by decide), wset_ne (by decide), wset_s]
    · by_cases e : r' = r
      · subst e
        refine Or.inl ⟨?_, ?_⟩
        · rw [wset_ne rw_sg, wset_ne rw_sg, wset_ne rw_sg, wset_s]
        · rw [wset_ne (by decide), wset_s]
      · refine (hi.2.1 r' hr').of (fun p => ?_) ?_ ?_ (fun j hj => ?_)
        · rw [wset_ne rw_sg, wset_ne rw_sg, wset_ne rw_sg, wset_ne (rw_ne hr' hr e)]
        · rw [wset_ne (by decide), wset_k e, wset_ne (by decide), wset_ne sg_rw]
        · rw [wset_ne (by decide), wset_ne (by decide), wset_ne (by decide), wset_ne sg_rw]
        · rw [wset_ne (by decide), wset_ne (by decide), wset_ne (by decide), wset_ne sg_rw]
    · refine (((Same.set ?_).tr (Same.set ?_)).tr (Same.set ?_)).tr (Same.set ?_)
      all_goals first | exact fun z => n1 z.symm | exact fun z => n0 z.symm
end
section
/-! copy -/
theorem nJ_subL {L i k : Nat} (hL : L < 2 ^ 30) (hi : i < 2 ^ 31) (hk : k < 2 ^ 31) : nI L - nI i < nI k ↔ L < i + k := by
  rcases Nat.lt_or_ge L i with h | h
  · have h2 : (nI L - nI i).toInt = (L : Int) - i := by
      rw [Int32.toInt_sub, nI_toInt (by omega), nI_toInt hi]
      exact Int.bmod_eq_of_le (by omega) (by omega)
    rw [Int32.lt_iff_toInt_lt, h2, nI_toInt hk]
    omega
  · rw [pk_sub h, nJ_lt (by omega) hk]
    omega
theorem sp_hasNo {w : Wd} {r : Fin 8} {L : Nat} {x y : Int32} (hL : L < 2 ^ 30) (h3 : w (rw_ r 0) 3 = nI L) (h : ∀ i k, i < 2 ^ 31 → k < 2 ^ 31 → x = nI i → y = nI k → L < i + k) : Cl 1 jR_hasPlaces [vR (rw_ r 0), vI x, vI y] w (some (vI (bI false)), w) := by
  refine Cl.of rfl rfl rfl (lc := [some (vR (rw_ r 0)), some (vI x), some (vI y)]) rfl ?_
  refine Rn.if1 60 rfl rfl (fun _ => Rn.zr 60 rfl rfl rfl (by decide) rfl) (fun h1 => ?_)
  refine Rn.if1 60 rfl rfl (fun _ => Rn.zr 60 rfl rfl rfl (by decide) rfl) (fun h2 => ?_)
  obtain ⟨i, hi, rfl⟩ := nI_of h1
  obtain ⟨k, hk, rfl⟩ := nI_of h2
  have hh := h i k hi hk rfl rfl
  refine Rn.if2 60 rfl rfl (fun _ => Rn.zr 60 rfl rfl rfl (by decide) rfl) (fun h4 => ?_)
  dsimp only [tm_c2P] at h4
  rw [h3, nJ_lt (by omega) hk] at h4
  refine Rn.if2t 60 rfl rfl (by dsimp only [tm_c2P]; rw [h3, pk_sub (by omega), nJ_lt (by omega) hi]; omega) ?_
  exact Rn.zr 60 rfl rfl rfl (by decide) rfl
theorem sp_hasYes {w : Wd} {r : Fin 8} {L i k : Nat} (hL : L < 2 ^ 30) (h3 : w (rw_ r 0) 3 = nI L) (h : i + k ≤ L) : Cl 1 jR_hasPlaces [vR (rw_ r 0), vI (nI i), vI (nI k)] w (some (vI (bI true)), w) := by
  refine Cl.of rfl rfl rfl (lc := [some (vR (rw_ r 0)), some (vI (nI i)), some (vI (nI k))]) rfl ?_
  refine Rn.if1f 60 rfl rfl (nI_pos (by omega)) ?_
  refine Rn.if1f 60 rfl rfl (nI_pos (by omega)) ?_
  refine Rn.if2f 60 rfl rfl (by dsimp only [tm_c2P]; rw [h3]; exact nI_nlt (by omega) (by omega)) ?_
  refine Rn.if2f 60 rfl rfl (by dsimp only [tm_c2P]; rw [h3, pk_sub (by omega)]; exact nI_nlt (by omega) (by omega)) ?_
  exact Rn.zr 60 rfl rfl rfl (by decide) rfl
theorem place_or (x y : Int32) (L : Nat) : (∃ i k, x = nI i ∧ y = nI k ∧ i + k ≤ L) ∨ ∀ i k, i < 2 ^ 31 → k < 2 ^ 31 → x = nI i → y = nI k → L < i + k := by
  by_cases h1 : x < 0
  · exact Or.inr (fun i k hi hk e _ => absurd h1 (by rw [e]; exact nI_pos hi))
  by_cases h2 : y < 0
  · exact Or.inr (fun i k hi hk _ e => absurd h2 (by rw [e]; exact nI_pos hk))
  obtain ⟨i, hi, rfl⟩ := nI_of h1
  obtain ⟨k, hk, rfl⟩ := nI_of h2
  rcases Nat.lt_or_ge L (i + k) with h | h
  · refine Or.inr (fun i' k' hi' hk' e1 e2 => ?_)
    rw [nI_eq hi hi'] at e1
    rw [nI_eq hk hk'] at e2
    omega
  · exact Or.inl ⟨i, k, rfl, rfl, h⟩
/-- the reference's copy, after k of its steps -/
def cpM (w : Wd) (A B : Nat) (D : Nat → Bool) : Wd := fun t q => if t = sg 16 ∧ B ≤ q ∧ D (q - B) = true then w (sg 16) (A + (q - B)) else w t q
theorem cpM_step {w : Wd} {A B t : Nat} {D D' : Nat → Bool} (h1 : ¬ (B ≤ A + t ∧ D (A + t - B) = true)) (h2 : ∀ u, D' u = (D u || decide (u = t))) : wset (cpM w A B D) (sg 16) (B + t) (cpM w A B D (sg 16) (A + t)) = cpM w A B D' := by
  funext t' q
  have e : cpM w A B D (sg 16) (A + t) = w (sg 16) (A + t) := if_neg (fun z => h1 z.2)
  rw [e]
  unfold wset
  by_cases c1 : t' = sg 16
  · subst c1
    rw [if_pos rfl]
    by_cases c2 : q = B + t
    · subst c2
      unfold cpM
      rw [if_pos rfl, if_pos ⟨rfl, by omega, by rw [h2, show B + t - B = t by omega]; simp⟩, show B + t - B = t by omega]
    · rw [if_neg c2]
      unfold cpM
      by_cases c3 : B ≤ q
      · rw [h2, show decide (q - B = t) = false from decide_eq_false (by omega), Bool.or_false]
      · rw [if_neg (fun z => c3 z.2.1), if_neg (fun z => c3 z.2.1)]
  · rw [if_neg c1]
    unfold cpM
    rw [if_neg (fun z => c1 z.1), if_neg (fun z => c1 z.1)]
theorem cpM_0 {w : Wd} {A B : Nat} : cpM w A B (fun _ => false) = w := by
  funext t q
  exact if_neg (fun z => by cases z.2.2)
theorem m_copyloop {w : Wd} {a b i j n : Nat} {x1 : Option AV} (ha : a < 8) (hb : b < 8) (hi : i + n ≤ 40) (hj : j + n ≤ 40) (rt : Bool) (hr : rt = true ↔ i < j) {r0 : Rs} (k : Rn none 19 jM_copy (186, [some (vR (sg 13)), some (vI (nI a)), some (vI (nI i)), some (vI (nI b)), some (vI (nI j)), some (vI (nI n)), some (vI (bI rt)), some (vI (nI n)), (if n = 0 then x1 else some (vI (nI (if rt = true then 0 else n - 1))))], [], cpM w (40 * a + i) (40 * b + j) (fun u => decide (u < n))) r0) : Rn none 19 jM_copy (125, [some (vR (sg 13)), some (vI (nI a)), some (vI (nI i)), some (vI (nI b)), some (vI (nI j)), some (vI (nI n)), some (vI (bI rt)), some (vI (nI 0)), x1], [], w) r0 := by
  have key : ∀ m q, q + m = n → Rn none 19 jM_copy (125, [some (vR (sg 13)), some (vI (nI a)), some (vI (nI i)), some (vI (nI b)), some (vI (nI j)), some (vI (nI n)), some (vI (bI rt)), some (vI (nI q)), (if q = 0 then x1 else some (vI (nI (if rt = true then n - q else q - 1))))], [], cpM w (40 * a + i) (40 * b + j) (fun u => if rt = true then decide (n - q ≤ u ∧ u < n) else decide (u < q))) r0 := by
    intro m
    induction m with
    | zero =>
      intro q hq
      obtain rfl : q = n := by omega
      refine Rn.if2t 60 rfl rfl (nI_le (by omega) (by omega)) ?_
      have e1 : (fun u => if rt = true then decide (q - q ≤ u ∧ u < q) else decide (u < q)) = (fun u => decide (u < q)) := by
        funext u
        cases rt <;> simp
      rw [e1, show q - q = 0 by omega]
      exact k
    | succ m ih =>
      intro q hq
      have k1 := ih (q + 1) (by omega)
      refine Rn.if2f 60 rfl rfl (nI_ge (by omega) (by omega)) ?_
      cases rt with
      | true =>
        have hlt := hr.mp rfl
        refine Rn.if1f 60 rfl rfl (by dsimp only [tm_c2P]; decide) ?_
        refine Rn.al 60 (j := 40 * a + i + (n - 1 - q)) rfl rfl rfl (by dsimp only; rw [pk_sub (by omega), pk_sub (by omega), pk_mul, nI_add, nI_add]) (by omega) ?_
        refine Rn.as 60 (j := 40 * b + j + (n - 1 - q)) rfl rfl rfl (by dsimp only; rw [pk_sub (by omega), pk_sub (by omega), pk_mul, nI_add, nI_add]) (by omega) ?_
        rw [cpM_step (D' := fun u => if true = true then decide (n - (q + 1) ≤ u ∧ u < n) else decide (u < q + 1)) (fun z => ?_) (fun u => ?_)]
        · rw [if_neg (by omega), if_pos rfl, nI_succ q, show n - (q + 1) = n - 1 - q by omega, ← pk_sub (show q ≤ n - 1 by omega), ← pk_sub (show 1 ≤ n by omega), show n - 1 - q = n - (q + 1) by omega] at k1
          exact Rn.at 2 rfl k1
        · have z2 := z.2
          simp only [if_true, decide_eq_true_eq] at z2
          have := z.1
          rcases Nat.lt_trichotomy a b with e | e | e
          · omega
          · subst e
            omega
          · omega
        · simp only [if_true]
          rw [Bool.eq_iff_iff]
          simp only [Bool.or_eq_true, decide_eq_true_eq]
          omega
      | false =>
        have hlt : ¬ i < j := fun z => by cases hr.mpr z
        refine Rn.if1t 60 rfl rfl (by dsimp only [tm_c2P]; decide) ?_
        refine Rn.al 60 (j := 40 * a + i + q) rfl rfl rfl (by dsimp only; rw [pk_mul, nI_add, nI_add]) (by omega) ?_
        refine Rn.as 60 (j := 40 * b + j + q) rfl rfl rfl (by dsimp only; rw [pk_mul, nI_add, nI_add]) (by omega) ?_
        rw [cpM_step (D' := fun u => if false = true then decide (n - (q + 1) ≤ u ∧ u < n) else decide (u < q + 1)) (fun z => ?_) (fun u => ?_)]
        · rw [if_neg (by omega), if_neg (by decide), show q + 1 - 1 = q by omega, nI_succ q] at k1
          exact Rn.at 2 rfl k1
        · have z2 := z.2
          simp only [Bool.false_eq_true, if_false, decide_eq_true_eq] at z2
          have := z.1
          rcases Nat.lt_trichotomy a b with e | e | e
          · omega
          · subst e
            omega
          · omega
        · simp only [Bool.false_eq_true, if_false]
          rw [Bool.eq_iff_iff]
          simp only [Bool.or_eq_true, decide_eq_true_eq]
          omega
  have k0 := key n 0 (by omega)
  have e1 : (fun u => if rt = true then decide (n - 0 ≤ u ∧ u < n) else decide (u < 0)) = (fun _ => false) := by
    funext u
    cases rt
    · simp
    · simp
  rw [e1, cpM_0, if_pos rfl] at k0
  exact k0
def cpX (w : Wd) (a b : Fin 8) (i j n : Nat) : Wd := fun t k => if t = rw_ b 1 then va_cpy (w (rw_ a 1)) (w (rw_ b 1)) i j n k else w t k
theorem cl_copy2 {w : Wd} {a b : Fin 8} {i j n : Nat} (h0 : i + n ≤ 40) (h1 : j + n ≤ 40) : Cl 1 999 [vR (rw_ a 1), vI (nI i), vR (rw_ b 1), vI (nI j), vI (nI n)] w (none, cpX w a b i j n) := cl_copy rfl rfl h0 h1
theorem op_copy {x1 x2 x3 x4 x5 : Int32} : Op jX_copy jM_copy [vI x1, vI x2, vI x3, vI x4, vI x5] := by
  intro w hi
  rcases pk_or (x := x1) (n := 8) (by decide) with h1 | ⟨a, ha, rfl⟩
  · refine op_same hi (v := -(nI 1000001)) ?_ ?_
    · refine Cl.of rfl rfl rfl (lc := [some (vR (sg 0)), some (vI x1), some (vI x2), some (vI x3), some (vI x4), some (vI x5), none, none]) rfl ?_
      refine Rn.cs 60 rfl rfl rfl rfl (x_no (by decide) h1) (by decide) ?_
      refine Rn.if1t 60 rfl rfl (by dsimp only [tm_c2P]; decide) ?_
      exact Rn.ir 60 rfl rfl rfl rfl
    · refine Cl.of rfl rfl rfl (lc := [some (vR (sg 13)), some (vI x1), some (vI x2), some (vI x3), some (vI x4), some (vI x5), none, none, none]) rfl ?_
      refine Rn.cs 60 rfl rfl rfl rfl (m_isRow_no h1) (by decide) ?_
      refine Rn.if1t 60 rfl rfl (by dsimp only [tm_c2P]; decide) ?_
      exact Rn.ir 60 rfl rfl rfl rfl
  rcases pk_or (x := x3) (n := 8) (by decide) with h1 | ⟨b, hb, rfl⟩
  · refine op_same hi (v := -(nI 1000001)) ?_ ?_
    · refine Cl.of rfl rfl rfl (lc := [some (vR (sg 0)), some (vI (nI a)), some (vI x2), some (vI x3), some (vI x4), some (vI x5), none, none]) rfl ?_
      refine Rn.cs 60 rfl rfl rfl rfl (x_yes (by decide) ha) (by decide) ?_
      refine Rn.if1f 60 rfl rfl (by dsimp only [tm_c2P]; decide) ?_
      refine Rn.cs 60 rfl rfl rfl rfl (x_no (by decide) h1) (by decide) ?_
      refine Rn.if1f 60 rfl rfl (by dsimp only [tm_c2P]; decide) ?_
      exact Rn.ir 60 rfl rfl rfl rfl
    · refine Cl.of rfl rfl rfl (lc := [some (vR (sg 13)), some (vI (nI a)), some (vI x2), some (vI x3), some (vI x4), some (vI x5), none, none, none]) rfl ?_
      refine Rn.cs 60 rfl rfl rfl rfl (m_isRow_yes ha) (by decide) ?_
      refine Rn.if1f 60 rfl rfl (by dsimp only [tm_c2P]; decide) ?_
      refine Rn.cs 60 rfl rfl rfl rfl (m_isRow_no h1) (by decide) ?_
      refine Rn.if1f 60 rfl rfl (by dsimp only [tm_c2P]; decide) ?_
      exact Rn.ir 60 rfl rfl rfl rfl
  have cx : ∀ {w : Wd} {r0 : Rs}, Rn none 19 jX_copy (37, [some (vR (sg 0)), some (vI (nI a)), some (vI x2), some (vI (nI b)), some (vI x4), some (vI x5), some (vR (rw_ (Fin.ofNat 8 a) 0)), some (vR (rw_ (Fin.ofNat 8 b) 0))], [], w) r0 → Cl 20 jX_copy [vR (sg 0), vI (nI a), vI x2, vI (nI b), vI x4, vI x5] w r0 := by
    intro w r0 k
    refine Cl.of rfl rfl rfl (lc := [some (vR (sg 0)), some (vI (nI a)), some (vI x2), some (vI (nI b)), some (vI x4), some (vI x5), none, none]) rfl ?_
    refine Rn.cs 60 rfl rfl rfl rfl (x_yes (by decide) ha) (by decide) ?_
    refine Rn.if1f 60 rfl rfl (by dsimp only [tm_c2P]; decide) ?_
    refine Rn.cs 60 rfl rfl rfl rfl (x_yes (by decide) hb) (by decide) ?_
    refine Rn.if1t 60 rfl rfl (by dsimp only [tm_c2P]; decide) ?_
    refine Rn.row 60 rfl rfl rfl ha ?_
    refine Rn.row 60 rfl rfl rfl hb ?_
    exact Rn.at 1 rfl k
  have cm : ∀ {w : Wd} {r0 : Rs}, Rn none 19 jM_copy (17, [some (vR (sg 13)), some (vI (nI a)), some (vI x2), some (vI (nI b)), some (vI x4), some (vI x5), none, none, none], [], w) r0 → Cl 20 jM_copy [vR (sg 13), vI (nI a), vI x2, vI (nI b), vI x4, vI x5] w r0 := by
    intro w r0 k
    refine Cl.of rfl rfl rfl (lc := [some (vR (sg 13)), some (vI (nI a)), some (vI x2), some (vI (nI b)), some (vI x4), some (vI x5), none, none, none]) rfl ?_
    refine Rn.cs 60 rfl rfl rfl rfl (m_isRow_yes ha) (by decide) ?_
    refine Rn.if1f 60 rfl rfl (by dsimp only [tm_c2P]; decide) ?_
    refine Rn.cs 60 rfl rfl rfl rfl (m_isRow_yes hb) (by decide) ?_
    exact Rn.if1t 60 rfl rfl (by dsimp only [tm_c2P]; decide) k
  have z14 : ∀ {x : Int32} {r : Nat}, wset w (sg 0) 8 x (sg 14) r = w (sg 14) r := by
    intro x r
    rw [wset_ne (by decide)]
  rcases hi.2.1 a ha with ⟨a1, a2⟩ | ⟨a1, la, na, hla, hna, a2, a3, a4, a5, a6⟩
  · refine op_found hi (x := nI 1) (v := -(nI 1000010) - nI 1) (cx ?_) (cm ?_)
    · refine Rn.if1t 60 rfl rfl (by rw [a1]; dsimp only [tm_c2P]; decide) ?_
      refine Rn.cv 60 rfl rfl rfl rfl rfl x_found (by decide) ?_
      exact Rn.ir 60 rfl rfl rfl rfl
    · refine Rn.al 60 rfl rfl rfl rfl ha ?_
      rw [z14, a2]
      refine Rn.if1t 60 rfl rfl (by dsimp only [tm_c2P]; decide) ?_
      refine Rn.cv 60 rfl rfl rfl rfl rfl m_finds (by decide) ?_
      exact Rn.ir 60 rfl rfl rfl rfl
  have ga : ¬ nI (la + 1) = 0 := nI_ne0 (by omega) (by omega)
  rcases hi.2.1 b hb with ⟨b1, b2⟩ | ⟨b1, lb, nb, hlb, hnb, b2, b3, b4, b5, b6⟩
  · refine op_found hi (x := nI 1) (v := -(nI 1000010) - nI 1) (cx ?_) (cm ?_)
    · refine Rn.if1f 60 rfl rfl (by rw [a1]; dsimp only [tm_c2P]; decide) ?_
      refine Rn.if1f 60 rfl rfl (by rw [b1]; dsimp only [tm_c2P]; decide) ?_
      refine Rn.cv 60 rfl rfl rfl rfl rfl x_found (by decide) ?_
      exact Rn.ir 60 rfl rfl rfl rfl
    · refine Rn.al 60 rfl rfl rfl rfl ha ?_
      rw [z14, a3]
      refine Rn.if1f 60 rfl rfl ga ?_
      refine Rn.al 60 rfl rfl rfl rfl hb ?_
      rw [z14, b2]
      refine Rn.if1f 60 rfl rfl (by dsimp only [tm_c2P]; decide) ?_
      refine Rn.cv 60 rfl rfl rfl rfl rfl m_finds (by decide) ?_
      exact Rn.ir 60 rfl rfl rfl rfl
  have gb : ¬ nI (lb + 1) = 0 := nI_ne0 (by omega) (by omega)
  have dx : ∀ {r0 : Rs}, Rn none 19 jX_copy (59, [some (vR (sg 0)), some (vI (nI a)), some (vI x2), some (vI (nI b)), some (vI x4), some (vI x5), some (vR (rw_ (Fin.ofNat 8 a) 0)), some (vR (rw_ (Fin.ofNat 8 b) 0))], [], w) r0 → Cl 20 jX_copy [vR (sg 0), vI (nI a), vI x2, vI (nI b), vI x4, vI x5] w r0 := by
    intro r0 k
    refine cx ?_
    refine Rn.if1f 60 rfl rfl (by rw [a1]; dsimp only [tm_c2P]; decide) ?_
    exact Rn.if1t 60 rfl rfl (by rw [b1]; dsimp only [tm_c2P]; decide) k
  have dm : ∀ {w : Wd} {r0 : Rs}, w (sg 14) a = nI (la + 1) → w (sg 14) b = nI (lb + 1) → Rn none 19 jM_copy (53, [some (vR (sg 13)), some (vI (nI a)), some (vI x2), some (vI (nI b)), some (vI x4), some (vI x5), none, none, none], [vI (nI (lb + 1)), vI (nI (la + 1))], w) r0 → Cl 20 jM_copy [vR (sg 13), vI (nI a), vI x2, vI (nI b), vI x4, vI x5] w r0 := by
    intro w r0 q1 q2 k
    refine cm ?_
    refine Rn.al 60 rfl rfl rfl rfl ha ?_
    rw [q1]
    refine Rn.if1f 60 rfl rfl ga ?_
    refine Rn.al 60 rfl rfl rfl rfl hb ?_
    rw [q2]
    refine Rn.if1t 60 rfl rfl gb ?_
    refine Rn.al 60 rfl rfl rfl rfl ha ?_
    rw [q1]
    refine Rn.al 60 rfl rfl rfl rfl hb ?_
    rw [q2]
    exact k
  by_cases hl : la = lb
  · subst hl
    have ex : ∀ {r0 : Rs}, Rn none 19 jX_copy (78, [some (vR (sg 0)), some (vI (nI a)), some (vI x2), some (vI (nI b)), some (vI x4), some (vI x5), some (vR (rw_ (Fin.ofNat 8 a) 0)), some (vR (rw_ (Fin.ofNat 8 b) 0))], [], w) r0 → Cl 20 jX_copy [vR (sg 0), vI (nI a), vI x2, vI (nI b), vI x4, vI x5] w r0 := by
      intro r0 k
      refine dx ?_
      exact Rn.if2t 60 rfl rfl (by dsimp only [tm_c2P]; rw [a2, b2]) k
    have em : ∀ {w : Wd} {r0 : Rs}, w (sg 14) a = nI (la + 1) → w (sg 14) b = nI (la + 1) → Rn none 19 jM_copy (62, [some (vR (sg 13)), some (vI (nI a)), some (vI x2), some (vI (nI b)), some (vI x4), some (vI x5), none, none, none], [], w) r0 → Cl 20 jM_copy [vR (sg 13), vI (nI a), vI x2, vI (nI b), vI x4, vI x5] w r0 := by
      intro w r0 q1 q2 k
      refine dm q1 q2 ?_
      exact Rn.if2t 60 rfl rfl rfl k
    have bad : ((∀ i k, i < 2 ^ 31 → k < 2 ^ 31 → x2 = nI i → x5 = nI k → na < i + k) ∨ (∀ i k, i < 2 ^ 31 → k < 2 ^ 31 → x4 = nI i → x5 = nI k → nb < i + k)) → Rn none 19 jX_copy (101, [some (vR (sg 0)), some (vI (nI a)), some (vI x2), some (vI (nI b)), some (vI x4), some (vI x5), some (vR (rw_ (Fin.ofNat 8 a) 0)), some (vR (rw_ (Fin.ofNat 8 b) 0))], [], w) (some (vI (-(nI 1000010) - nI 2)), wset w (sg 0) 8 (nI 2)) → ∃ w1 w2 v, Cl 20 jX_copy [vR (sg 0), vI (nI a), vI x2, vI (nI b), vI x4, vI x5] w (some (vI v), w1) ∧ Cl 20 jM_copy [vR (sg 13), vI (nI a), vI x2, vI (nI b), vI x4, vI x5] w1 (some (vI v), w2) ∧ Inv w2 := by
      intro hbad _
      refine op_found hi (x := nI 2) (v := -(nI 1000010) - nI 2) (ex ?_) (em (z14.trans a3) (z14.trans b3) ?_)
      · have fin : Rn none 19 jX_copy (101, [some (vR (sg 0)), some (vI (nI a)), some (vI x2), some (vI (nI b)), some (vI x4), some (vI x5), some (vR (rw_ (Fin.ofNat 8 a) 0)), some (vR (rw_ (Fin.ofNat 8 b) 0))], [], w) (some (vI (-(nI 1000010) - nI 2)), wset w (sg 0) 8 (nI 2)) := by
          refine Rn.cv 60 rfl rfl rfl rfl rfl x_found (by decide) ?_
          exact Rn.ir 60 rfl rfl rfl rfl
        rcases place_or x2 x5 na with ⟨i, n, rfl, rfl, hin⟩ | hno
        · refine Rn.cv 60 rfl rfl rfl rfl rfl (sp_hasYes (by omega) a4 hin) (by decide) ?_
          refine Rn.if1f 60 rfl rfl (by dsimp only [tm_c2P]; decide) ?_
          have h2 := hbad.resolve_left (fun z => absurd (z i n (by omega) (by omega) rfl rfl) (by omega))
          refine Rn.cv 60 rfl rfl rfl rfl rfl (sp_hasNo (by omega) b4 h2) (by decide) ?_
          exact Rn.if1f 60 rfl rfl (by dsimp only [tm_c2P]; decide) fin
        · refine Rn.cv 60 rfl rfl rfl rfl rfl (sp_hasNo (by omega) a4 hno) (by decide) ?_
          exact Rn.if1t 60 rfl rfl (by dsimp only [tm_c2P]; decide) fin
      · have fin : Rn none 19 jM_copy (103, [some (vR (sg 13)), some (vI (nI a)), some (vI x2), some (vI (nI b)), some (vI x4), some (vI x5), none, none, none], [], wset w (sg 0) 8 (nI 2)) (some (vI (-(nI 1000010) - nI 2)), wset (wset w (sg 0) 8 (nI 2)) (sg 13) 3 (nI 2)) := by
          refine Rn.cv 60 rfl rfl rfl rfl rfl m_finds (by decide) ?_
          exact Rn.ir 60 rfl rfl rfl rfl
        have z15 : ∀ {x : Int32} {r : Nat}, wset w (sg 0) 8 x (sg 15) r = w (sg 15) r := by
          intro x r
          rw [wset_ne (by decide)]
        refine Rn.if1 60 rfl rfl (fun _ => fin) (fun h2 => ?_)
        refine Rn.if1 60 rfl rfl (fun _ => fin) (fun h4 => ?_)
        refine Rn.if1 60 rfl rfl (fun _ => fin) (fun h5 => ?_)
        obtain ⟨i, hi2, rfl⟩ := nI_of h2
        obtain ⟨j, hj2, rfl⟩ := nI_of h4
        obtain ⟨n, hn2, rfl⟩ := nI_of h5
        refine Rn.al 60 rfl rfl rfl rfl ha ?_
        rw [z15, a5]
        refine Rn.if2 60 rfl rfl (fun _ => fin) (fun h6 => ?_)
        dsimp only [tm_c2P] at h6
        rw [nJ_subL (by omega) hi2 hn2] at h6
        have h7 := hbad.resolve_left (fun z => absurd (z i n hi2 hn2 rfl rfl) h6)
        have h8 := h7 j n hj2 hn2 rfl rfl
        refine Rn.al 60 rfl rfl rfl rfl hb ?_
        rw [z15, b5]
        refine Rn.if2f 60 rfl rfl (by dsimp only [tm_c2P]; rw [Int32.not_le, nJ_subL (by omega) hj2 hn2]; exact h8) ?_
        exact fin
    have badd := fun hb2 => bad hb2 (by
      refine Rn.cv 60 rfl rfl rfl rfl rfl x_found (by decide) ?_
      exact Rn.ir 60 rfl rfl rfl rfl)
    rcases place_or x2 x5 na with ⟨i, n, rfl, rfl, hin⟩ | hno
    · rcases place_or x4 (nI n) nb with ⟨j, n', rfl, en, hjn⟩ | hno
      · obtain rfl : n = n' := by
          rw [nI_eq (by omega) (by omega)] at en
          exact en
        refine ⟨wset (cpX w (Fin.ofNat 8 a) (Fin.ofNat 8 b) i j n) (sg 0) 8 (nI 0), wset (cpM (wset (cpX w (Fin.ofNat 8 a) (Fin.ofNat 8 b) i j n) (sg 0) 8 (nI 0)) (40 * a + i) (40 * b + j) (fun u => decide (u < n))) (sg 13) 3 (nI 0), nI n, ex ?_, ?_, ?_⟩
        · refine Rn.cv 60 rfl rfl rfl rfl rfl (sp_hasYes (by omega) a4 hin) (by decide) ?_
          refine Rn.if1f 60 rfl rfl (by dsimp only [tm_c2P]; decide) ?_
          refine Rn.cv 60 rfl rfl rfl rfl rfl (sp_hasYes (by omega) b4 hjn) (by decide) ?_
          refine Rn.if1t 60 rfl rfl (by dsimp only [tm_c2P]; decide) ?_
          refine Rn.cs 60 rfl rfl rfl rfl (cl_copy2 (by omega) (by omega)) (by decide) ?_
          refine Rn.cv 60 rfl rfl rfl rfl rfl x_clean (by decide) ?_
          exact Rn.ir 60 rfl rfl rfl rfl
        · have zz : ∀ {s r : Nat}, s ≠ 0 → wset (cpX w (Fin.ofNat 8 a) (Fin.ofNat 8 b) i j n) (sg 0) 8 (nI 0) (sg s) r = w (sg s) r := by
            intro s r hs
            rw [wset_ne (fun z => hs (by cases z; rfl))]
            exact if_neg sg_rw
          refine em ((zz (by decide)).trans a3) ((zz (by decide)).trans b3) ?_
          refine Rn.if1f 60 rfl rfl (nI_pos (by omega)) ?_
          refine Rn.if1f 60 rfl rfl (nI_pos (by omega)) ?_
          refine Rn.if1f 60 rfl rfl (nI_pos (by omega)) ?_
          refine Rn.al 60 rfl rfl rfl rfl ha ?_
          refine Rn.if2f 60 rfl rfl (by dsimp only [tm_c2P]; rw [zz (by decide), a5, nJ_subL (by omega) (by omega) (by omega)]; omega) ?_
          refine Rn.al 60 rfl rfl rfl rfl hb ?_
          refine Rn.if2t 60 rfl rfl (by dsimp only [tm_c2P]; rw [zz (by decide), b5, ← Int32.not_lt, nJ_subL (by omega) (by omega) (by omega)]; omega) ?_
          have fin : Rn none 19 jM_copy (186, [some (vR (sg 13)), some (vI (nI a)), some (vI (nI i)), some (vI (nI b)), some (vI (nI j)), some (vI (nI n)), some (vI (bI (decide (i < j)))), some (vI (nI n)), (if n = 0 then none else some (vI (nI (if decide (i < j) = true then 0 else n - 1))))], [], cpM (wset (cpX w (Fin.ofNat 8 a) (Fin.ofNat 8 b) i j n) (sg 0) 8 (nI 0)) (40 * a + i) (40 * b + j) (fun u => decide (u < n))) (some (vI (nI n)), wset (cpM (wset (cpX w (Fin.ofNat 8 a) (Fin.ofNat 8 b) i j n) (sg 0) 8 (nI 0)) (40 * a + i) (40 * b + j) (fun u => decide (u < n))) (sg 13) 3 (nI 0)) := by
            refine Rn.cv 60 rfl rfl rfl rfl rfl m_well (by decide) ?_
            exact Rn.ir 60 rfl rfl rfl rfl
          have lp := m_copyloop (x1 := none) ha hb (by omega) (by omega) (decide (i < j)) (by simp) fin
          by_cases hij : i < j
          · rw [decide_eq_true hij] at lp
            refine Rn.if2f 60 rfl rfl (by dsimp only [tm_c2P]; rw [Int32.not_le]; exact nI_lt hij (by omega)) ?_
            exact Rn.at 5 rfl lp
          · rw [decide_eq_false hij] at lp
            refine Rn.if2t 60 rfl rfl (nI_le (by omega) (by omega)) ?_
            exact Rn.at 4 rfl lp
        · have sm : ∀ m, m ≠ 0 → m ≠ 1 → Same m w (wset (cpM (wset (cpX w (Fin.ofNat 8 a) (Fin.ofNat 8 b) i j n) (sg 0) 8 (nI 0)) (40 * a + i) (40 * b + j) (fun u => decide (u < n))) (sg 13) 3 (nI 0)) := by
            intro m n0 n1
            refine Same.tr (w1 := cpM (wset (cpX w (Fin.ofNat 8 a) (Fin.ofNat 8 b) i j n) (sg 0) 8 (nI 0)) (40 * a + i) (40 * b + j) (fun u => decide (u < n))) (Same.tr (w1 := wset (cpX w (Fin.ofNat 8 a) (Fin.ofNat 8 b) i j n) (sg 0) 8 (nI 0)) (Same.tr (w1 := cpX w (Fin.ofNat 8 a) (Fin.ofNat 8 b) i j n) (fun t q e => ?_) (Same.set (fun z => n0 z.symm))) (fun t q e => ?_)) (Same.set (fun z => n0 z.symm))
            · exact if_neg (fun z => by subst z; exact n1 e.symm)
            · exact if_neg (fun z => by
                obtain ⟨z, _⟩ := z
                subst z
                exact n1 e.symm)
          have r14 : ∀ {s q : Nat}, s ≠ 0 → s ≠ 13 → s ≠ 16 → wset (cpM (wset (cpX w (Fin.ofNat 8 a) (Fin.ofNat 8 b) i j n) (sg 0) 8 (nI 0)) (40 * a + i) (40 * b + j) (fun u => decide (u < n))) (sg 13) 3 (nI 0) (sg s) q = w (sg s) q := by
            intro s q h1 h2 h3
            rw [wset_ne (fun z => h2 (by cases z; rfl))]
            unfold cpM
            rw [if_neg (fun z => h3 (by cases z.1; rfl)), wset_ne (fun z => h1 (by cases z; rfl))]
            exact if_neg sg_rw
          have r16 : ∀ {q : Nat}, wset (cpM (wset (cpX w (Fin.ofNat 8 a) (Fin.ofNat 8 b) i j n) (sg 0) 8 (nI 0)) (40 * a + i) (40 * b + j) (fun u => decide (u < n))) (sg 13) 3 (nI 0) (sg 16) q = if 40 * b + j ≤ q ∧ q < 40 * b + j + n then w (sg 16) (40 * a + i + (q - (40 * b + j))) else w (sg 16) q := by
            intro q
            have e0 : ∀ k, wset (cpX w (Fin.ofNat 8 a) (Fin.ofNat 8 b) i j n) (sg 0) 8 (nI 0) (sg 16) k = w (sg 16) k := fun k => by
              rw [wset_ne (by decide)]
              exact if_neg sg_rw
            rw [wset_ne (by decide)]
            unfold cpM
            rw [e0, e0]
            by_cases c : 40 * b + j ≤ q ∧ q < 40 * b + j + n
            · rw [if_pos c, if_pos ⟨rfl, c.1, decide_eq_true (by omega)⟩]
            · rw [if_neg c, if_neg (fun z => c ⟨z.2.1, by have := of_decide_eq_true z.2.2; omega⟩)]
          have rX : ∀ {r : Fin 8} {p q : Nat}, wset (cpM (wset (cpX w (Fin.ofNat 8 a) (Fin.ofNat 8 b) i j n) (sg 0) 8 (nI 0)) (40 * a + i) (40 * b + j) (fun u => decide (u < n))) (sg 13) 3 (nI 0) (rw_ r p) q = cpX w (Fin.ofNat 8 a) (Fin.ofNat 8 b) i j n (rw_ r p) q := by
            intro r p q
            rw [wset_ne rw_sg]
            unfold cpM
            rw [if_neg (fun z => rw_sg z.1), wset_ne rw_sg]
          refine hi.row ?_ (fun r' hr' => ?_) sm
          · unfold FinI
            rw [wset_s, wset_ne (by decide)]
            unfold cpM
            rw [if_neg (fun z => absurd z.1 (by decide)), wset_s]
          · by_cases e : r' = b
            · subst e
              have f0 : ∀ q, cpX w (Fin.ofNat 8 a) (Fin.ofNat 8 r') i j n (rw_ (Fin.ofNat 8 r') 0) q = w (rw_ (Fin.ofNat 8 r') 0) q := fun q => if_neg (rw_p (by decide))
              refine Or.inr ⟨by rw [rX, f0]; exact b1, la, nb, hla, hnb, by rw [rX, f0]; exact b2, by rw [r14 (by decide) (by decide) (by decide)]; exact b3, by rw [rX, f0]; exact b4, by rw [r14 (by decide) (by decide) (by decide)]; exact b5, fun m hm => ?_⟩
              rw [rX, r16]
              unfold cpX va_cpy
              rw [if_pos rfl]
              by_cases c : j ≤ m ∧ m < j + n
              · rw [if_pos c, if_pos (by omega), a6 _ (by omega)]
                congr 1
                omega
              · rw [if_neg c, if_neg (by omega), b6 m hm]
            · refine (hi.2.1 r' hr').of (fun p => ?_) ?_ ?_ (fun m hm => ?_)
              · funext q
                rw [rX]
                exact if_neg (rw_ne hr' hb e)
              · exact r14 (by decide) (by decide) (by decide)
              · exact r14 (by decide) (by decide) (by decide)
              · rw [r16, if_neg (by omega)]
      · exact badd (Or.inr hno)
    · exact badd (Or.inl hno)
  · refine op_found hi (x := nI 5) (v := -(nI 1000010) - nI 5) (dx ?_) (dm (z14.trans a3) (z14.trans b3) ?_)
    · refine Rn.if2f 60 rfl rfl (by dsimp only [tm_c2P]; rw [a2, b2, nI_eq (by omega) (by omega)]; exact hl) ?_
      refine Rn.cv 60 rfl rfl rfl rfl rfl x_found (by decide) ?_
      exact Rn.ir 60 rfl rfl rfl rfl
    · refine Rn.if2f 60 rfl rfl (by dsimp only [tm_c2P]; rw [nI_eq (by omega) (by omega)]; omega) ?_
      refine Rn.cv 60 rfl rfl rfl rfl rfl m_finds (by decide) ?_
      exact Rn.ir 60 rfl rfl rfl rfl
end
section
/-! status, fault, feed -/
theorem op_status : Op jX_status jM_status [] := by
  intro w hi
  refine op_same hi (v := w (sg 0) 8) ?_ ?_
  · refine Cl.of rfl rfl rfl (lc := [some (vR (sg 0))]) rfl ?_
    exact Rn.ir 60 rfl rfl rfl rfl
  · refine Cl.of rfl rfl rfl (lc := [some (vR (sg 13))]) rfl ?_
    rw [hi.1]
    exact Rn.ir 60 rfl rfl rfl rfl
theorem op_fault : Op jX_fault jM_fault [] := by
  intro w hi
  refine op_same hi (v := w (sg 2) 2) ?_ ?_
  · refine Cl.of rfl rfl rfl (lc := [some (vR (sg 0))]) rfl ?_
    exact Rn.ir 60 rfl rfl rfl rfl
  · refine Cl.of rfl rfl rfl (lc := [some (vR (sg 13))]) rfl ?_
    rw [hi.2.2.1.1]
    exact Rn.ir 60 rfl rfl rfl rfl
theorem Inv.tape {w w' : Wd} (h : Inv w) (ht : TapI w') (e : ∀ n, n ≠ 2 → n ≠ 9 → Same n w w') : Inv w' := ⟨h.1.same (e 0 (by decide) (by decide)), h.2.1.same (e 1 (by decide) (by decide)), ht, h.2.2.2.1.same (e 3 (by decide) (by decide)), h.2.2.2.2.1.same (e 4 (by decide) (by decide)), h.2.2.2.2.2.same (e 5 (by decide) (by decide))⟩
theorem sp_add {w : Wd} {n : Nat} {x : Int32} (h : w (sg 2) 1 = nI n) (hn : n < 160) : Cl 1 jT_add [vR (sg 2), vI x] w (some (vI (bI true)), wset (wset w (sg 3) n x) (sg 2) 1 (nI (n + 1))) := by
  refine Cl.of rfl rfl rfl (lc := [some (vR (sg 2)), some (vI x)]) rfl ?_
  refine Rn.if2t 60 rfl rfl (by dsimp only [tm_c2P]; rw [h]; exact nI_lt hn (by decide)) ?_
  refine Rn.as 60 rfl rfl rfl h hn ?_
  refine Rn.zr 60 rfl rfl rfl (by decide) ?_
  rw [wset_ne (show sg 2 ≠ sg 3 by decide), h]
  dsimp only
  rw [nI_add]
  rfl
theorem op_feed {x : Int32} : Op jX_feed jM_feed [vI x] := by
  intro w hi
  rcases pk_or (x := x) (n := 256) (by decide) with h1 | ⟨v, hv, rfl⟩
  · refine op_same hi (v := -(nI 1000001)) ?_ ?_
    · refine Cl.of rfl rfl rfl (lc := [some (vR (sg 0)), some (vI x)]) rfl ?_
      refine Rn.if1 60 rfl rfl (fun _ => Rn.ir 60 rfl rfl rfl rfl) (fun h2 => ?_)
      refine Rn.if2f 60 rfl rfl (Int32.not_le.mpr (nI_lt1 (n := 255) (by decide) (h1.resolve_left h2))) ?_
      exact Rn.ir 60 rfl rfl rfl rfl
    · refine Cl.of rfl rfl rfl (lc := [some (vR (sg 13)), some (vI x)]) rfl ?_
      refine Rn.cs 60 rfl rfl rfl rfl (m_no (n := 255) (by decide) h1) (by decide) ?_
      refine Rn.if1f 60 rfl rfl (by dsimp only [tm_c2P]; decide) ?_
      exact Rn.ir 60 rfl rfl rfl rfl
  obtain ⟨g0, n, g1, g2, g3, g4⟩ := hi.2.2.1
  have cx : ∀ {r0 : Rs}, Rn none 19 jX_feed (14, [some (vR (sg 0)), some (vI (nI v))], [], w) r0 → Cl 20 jX_feed [vR (sg 0), vI (nI v)] w r0 := by
    intro r0 k
    refine Cl.of rfl rfl rfl (lc := [some (vR (sg 0)), some (vI (nI v))]) rfl ?_
    refine Rn.if1f 60 rfl rfl (nI_pos (by omega)) ?_
    exact Rn.if2t 60 rfl rfl (nI_le (by omega) (by decide)) k
  have cm : ∀ {w : Wd} {r0 : Rs}, Rn none 19 jM_feed (14, [some (vR (sg 13)), some (vI (nI v))], [], w) r0 → Cl 20 jM_feed [vR (sg 13), vI (nI v)] w r0 := by
    intro w r0 k
    refine Cl.of rfl rfl rfl (lc := [some (vR (sg 13)), some (vI (nI v))]) rfl ?_
    refine Rn.cs 60 rfl rfl rfl rfl (m_yes (n := 255) (by decide) (by omega)) (by decide) ?_
    exact Rn.if1t 60 rfl rfl (by dsimp only [tm_c2P]; decide) k
  by_cases hn : n = 160
  · subst hn
    refine op_same hi (v := -(nI 1000003)) (cx ?_) (cm ?_)
    · have ha : Cl 1 jT_add [vR (sg 2), vI (nI v)] w (some (vI (bI false)), w) := by
        refine Cl.of rfl rfl rfl (lc := [some (vR (sg 2)), some (vI (nI v))]) rfl ?_
        refine Rn.if2f 60 rfl rfl (by dsimp only [tm_c2P]; rw [g2]; decide) ?_
        exact Rn.zr 60 rfl rfl rfl (by decide) rfl
      refine Rn.cv 60 rfl rfl rfl rfl rfl ha (by decide) ?_
      refine Rn.if1t 60 rfl rfl (by dsimp only [tm_c2P]; decide) ?_
      exact Rn.ir 60 rfl rfl rfl rfl
    · refine Rn.if2f 60 rfl rfl (by dsimp only [tm_c2P]; rw [g3]; decide) ?_
      exact Rn.ir 60 rfl rfl rfl rfl
  · refine ⟨wset (wset w (sg 3) n (nI v)) (sg 2) 1 (nI (n + 1)), wset (wset (wset (wset w (sg 3) n (nI v)) (sg 2) 1 (nI (n + 1))) (sg 20) n (vp_nar .byte ((nI v).toInt8.toInt32))) (sg 13) 10 (nI (n + 1)), nI (n + 1), cx ?_, cm ?_, ?_⟩
    · refine Rn.cv 60 rfl rfl rfl rfl rfl (sp_add g2 (by omega)) (by decide) ?_
      refine Rn.if1f 60 rfl rfl (by dsimp only [tm_c2P]; decide) ?_
      refine Rn.ir 60 rfl rfl rfl ?_
      rw [wset_s]
    · have e10 : wset (wset w (sg 3) n (nI v)) (sg 2) 1 (nI (n + 1)) (sg 13) 10 = nI n := by rw [wset_ne (by decide), wset_ne (by decide), g3]
      refine Rn.if2t 60 rfl rfl (by dsimp only [tm_c2P]; rw [e10, nI_eq (by omega) (by decide)]; exact hn) ?_
      refine Rn.bas 60 (y := 1) rfl rfl rfl e10 (by omega) ?_
      refine Rn.ir 60 rfl rfl rfl ?_
      rw [wset_s, wset_ne (show sg 13 ≠ sg 20 by decide), e10]
      dsimp only
      rw [nI_add]
      rfl
    · have hnar : ∀ v, v < 256 → vp_nar .byte ((nI v).toInt8.toInt32) = vp_nar .byte (nI v) := by decide +kernel
      refine hi.tape ⟨?_, n + 1, by omega, ?_, wset_s, fun i hin => ?_⟩ (fun m m2 m9 => ?_)
      · rw [wset_ne (by decide), wset_ne (by decide), wset_k (by decide), wset_ne (by decide), wset_k (by decide), wset_ne (by decide), wset_ne (by decide), wset_ne (by decide)]
        exact g0
      · rw [wset_ne (by decide), wset_ne (by decide), wset_s]
      · rw [wset_ne (u := sg 3) (t := sg 13) (by decide), wset_ne (u := sg 3) (t := sg 20) (by decide), wset_ne (u := sg 3) (t := sg 2) (by decide), wset_ne (u := sg 20) (t := sg 13) (by decide)]
        by_cases e : i = n
        · subst e
          exact ⟨v, hv, wset_s, by rw [wset_s]; exact hnar v hv⟩
        · rw [wset_k e, wset_k e, wset_ne (by decide), wset_ne (by decide)]
          exact g4 i (by omega)
      · refine (((Same.set ?_).tr (Same.set ?_)).tr (Same.set ?_)).tr (Same.set ?_)
        all_goals exact fun z => m2 z.symm
end
section
/-! the reference's town: what is reached, steps, walled in, glad -/
def MPl (w : Wd) (c : Nat → Nat) : Prop := w (sg 13) 5 = nI 0 ∧ w (sg 17) 0 = nI (c 0) ∧ w (sg 17) 3 = nI (c 3) ∧ w (sg 17) 4 = nI (c 4) ∧ (∀ g, g < c 3 → w (sg 17) (8 + 2 * g) = nI (c (8 + 2 * g)) ∧ w (sg 17) (9 + 2 * g) = nI (c (9 + 2 * g))) ∧ ∀ p, p < c 4 → w (sg 17) (24 + 5 * p) = nI (so c p) ∧ w (sg 17) (25 + 5 * p) = nI (ho c p) ∧ w (sg 17) (26 + 5 * p) = nI (er c p) ∧ w (sg 17) (28 + 5 * p) = nI (we c p)
theorem MPl.fr {w w' : Wd} {c : Nat → Nat} (h : MPl w c) (e5 : w' (sg 13) 5 = w (sg 13) 5) (e17 : w' (sg 17) = w (sg 17)) : MPl w' c := by
  unfold MPl
  rw [e5, e17]
  exact h
theorem m_get {w : Wd} {x v : Int32} {k : Nat} (hb : w (sg 13) 5 = nI 0) (hx : x = nI k) (hk : k < 196) (hv : w (sg 17) k = v) : Cl 1 jM_get [vR (sg 13), vI x] w (some (vI v), w) := by
  subst hx
  refine Cl.of rfl rfl rfl (lc := [some (vR (sg 13)), some (vI (nI k))]) rfl ?_
  refine Rn.al 60 (j := k) rfl rfl rfl (by dsimp only; rw [hb, nI_add, Nat.zero_add]) hk ?_
  rw [hv]
  exact Rn.ir 60 rfl rfl rfl rfl
theorem m_gA {w : Wd} {c : Nat → Nat} {g : Nat} (hc : PlOk c) (h : MPl w c) (hg : g < c 3) : Cl 1 jM_get [vR (sg 13), vI (nI 8 + nI 2 * nI g)] w (some (vI (nI (c (8 + 2 * g)))), w) := m_get h.1 (by rw [pk_mul, nI_add]) (by have := hc.2.1; omega) (h.2.2.2.2.1 g hg).1
theorem m_gB {w : Wd} {c : Nat → Nat} {g : Nat} (hc : PlOk c) (h : MPl w c) (hg : g < c 3) : Cl 1 jM_get [vR (sg 13), vI (nI 8 + nI 2 * nI g + nI 1)] w (some (vI (nI (c (9 + 2 * g)))), w) := m_get (k := 9 + 2 * g) h.1 (by rw [pk_mul, nI_add, nI_add, show 8 + 2 * g + 1 = 9 + 2 * g by omega]) (by have := hc.2.1; omega) (h.2.2.2.2.1 g hg).2
theorem m_pers {w : Wd} {p k : Nat} {v : Int32} (hb : w (sg 13) 5 = nI 0) (hk : 24 + 5 * p + k < 196) (hv : w (sg 17) (24 + 5 * p + k) = v) : Cl 2 jM_personal [vR (sg 13), vI (nI p), vI (nI k)] w (some (vI v), w) := by
  refine Cl.of rfl rfl rfl (lc := [some (vR (sg 13)), some (vI (nI p)), some (vI (nI k))]) rfl ?_
  refine Rn.cv 60 rfl rfl rfl rfl rfl (m_get (k := 24 + 5 * p + k) hb (by dsimp only; rw [pk_mul, nI_add, nI_add]) hk hv) (by decide) ?_
  exact Rn.ir 60 rfl rfl rfl rfl
theorem m_so {w : Wd} {c : Nat → Nat} {p : Nat} (hc : PlOk c) (h : MPl w c) (hp : p < c 4) : Cl 2 jM_personal [vR (sg 13), vI (nI p), vI (nI 0)] w (some (vI (nI (so c p))), w) := m_pers h.1 (by have := hc.2.2.1; omega) (h.2.2.2.2.2 p hp).1
theorem m_ho {w : Wd} {c : Nat → Nat} {p : Nat} (hc : PlOk c) (h : MPl w c) (hp : p < c 4) : Cl 2 jM_personal [vR (sg 13), vI (nI p), vI (nI 1)] w (some (vI (nI (ho c p))), w) := m_pers h.1 (by have := hc.2.2.1; omega) (by rw [show 24 + 5 * p + 1 = 25 + 5 * p by omega]; exact (h.2.2.2.2.2 p hp).2.1)
theorem m_er {w : Wd} {c : Nat → Nat} {p : Nat} (hc : PlOk c) (h : MPl w c) (hp : p < c 4) : Cl 2 jM_personal [vR (sg 13), vI (nI p), vI (nI 2)] w (some (vI (nI (er c p))), w) := m_pers h.1 (by have := hc.2.2.1; omega) (by rw [show 24 + 5 * p + 2 = 26 + 5 * p by omega]; exact (h.2.2.2.2.2 p hp).2.2.1)
theorem m_we {w : Wd} {c : Nat → Nat} {p : Nat} (hc : PlOk c) (h : MPl w c) (hp : p < c 4) : Cl 2 jM_personal [vR (sg 13), vI (nI p), vI (nI 4)] w (some (vI (nI (we c p))), w) := m_pers h.1 (by have := hc.2.2.1; omega) (by rw [show 24 + 5 * p + 4 = 28 + 5 * p by omega]; exact (h.2.2.2.2.2 p hp).2.2.2)
theorem m_G {w : Wd} {c : Nat → Nat} (h : MPl w c) : Cl 1 jM_get [vR (sg 13), vI (nI 3)] w (some (vI (nI (c 3))), w) := m_get h.1 rfl (by decide) h.2.2.1
theorem m_P {w : Wd} {c : Nat → Nat} (h : MPl w c) : Cl 1 jM_get [vR (sg 13), vI (nI 4)] w (some (vI (nI (c 4))), w) := m_get h.1 rfl (by decide) h.2.2.2.1
theorem m_Q {w : Wd} {c : Nat → Nat} (h : MPl w c) : Cl 1 jM_get [vR (sg 13), vI (nI 0)] w (some (vI (nI (c 0))), w) := m_get h.1 rfl (by decide) h.2.1
theorem m_ends {c : Nat → Nat} (hc : PlOk c) {g : Nat} (hg : g < c 3) : nI 1 <<< (nI (c (8 + 2 * g)) &&& 31) ||| nI 1 <<< (nI (c (9 + 2 * g)) &&& 31) = nI (eN c g) := by
  obtain ⟨a1, a2⟩ := hc.2.2.2.1 g hg
  have h0 := hc.1
  rw [nJ_1shl (by omega), nJ_1shl (by omega), nJ_or]
  rfl
theorem m_isGate {w : Wd} {c : Nat → Nat} (hc : PlOk c) (h : MPl w c) {x : Int32} : Cl 2 jM_isGate [vR (sg 13), vI x] w (some (vI (bI (decide (nI 0 ≤ x) && decide (x ≤ nI (c 3) - nI 1)))), w) := by
  refine Cl.of rfl rfl rfl (lc := [some (vR (sg 13)), some (vI x)]) rfl ?_
  refine Rn.cv 60 rfl rfl rfl rfl rfl (m_G h) (by decide) ?_
  refine Rn.cs 60 rfl rfl rfl rfl m_in (by decide) ?_
  exact Rn.zr 60 rfl rfl rfl (by cases (decide (nI 0 ≤ x) && decide (x ≤ nI (c 3) - nI 1)) <;> decide) rfl
theorem m_isPerson {w : Wd} {c : Nat → Nat} (hc : PlOk c) (h : MPl w c) {x : Int32} : Cl 2 jM_isPerson [vR (sg 13), vI x] w (some (vI (bI (decide (nI 0 ≤ x) && decide (x ≤ nI (c 4) - nI 1)))), w) := by
  refine Cl.of rfl rfl rfl (lc := [some (vR (sg 13)), some (vI x)]) rfl ?_
  refine Rn.cv 60 rfl rfl rfl rfl rfl (m_P h) (by decide) ?_
  refine Rn.cs 60 rfl rfl rfl rfl m_in (by decide) ?_
  exact Rn.zr 60 rfl rfl rfl (by cases (decide (nI 0 ≤ x) && decide (x ≤ nI (c 4) - nI 1)) <;> decide) rfl
theorem in_yes {j n : Nat} (hn : n < 2 ^ 31) (h : j < n) : (decide (nI 0 ≤ nI j) && decide (nI j ≤ nI n - nI 1)) = true := by
  rw [pk_sub (by omega), decide_eq_true (show nI 0 ≤ nI j from nI_pos' (by omega)), decide_eq_true (nI_le (show j ≤ n - 1 by omega) (by omega))]
  rfl
theorem in_no {x : Int32} {n : Nat} (hn : n < 2 ^ 31) (h : x < 0 ∨ nI n ≤ x) : (decide (nI 0 ≤ x) && decide (x ≤ nI n - nI 1)) = false := by
  rcases h with h | h
  · rw [decide_eq_false (show ¬ nI 0 ≤ x from Int32.not_le.mpr h), Bool.false_and]
  · rcases Nat.eq_zero_or_pos n with h0 | h0
    · subst h0
      rw [decide_eq_false (show ¬ x ≤ nI 0 - nI 1 from fun z => absurd (Int32.le_trans h z) (by decide)), Bool.and_false]
    · rw [pk_sub (by omega), decide_eq_false (show ¬ x ≤ nI (n - 1) from Int32.not_le.mpr (nI_lt1 (by omega) (by rw [show n - 1 + 1 = n by omega]; exact h))), Bool.and_false]
theorem m_reachBy {w : Wd} {c : Nat → Nat} {o q : Nat} (hc : PlOk c) (h : MPl w c) (h8 : o < 256) (hq : q < c 0) : Cl 2 jM_reachBy [vR (sg 13), vI (nI q), vI (nI o)] w (some (vI (nI (rc c o q))), w) := by
  have hc3 := hc.2.1
  have hc0 := hc.1
  have inner : ∀ n g s i x6, g + n = c 3 → ∃ x6', ∀ r, Rn none 1 jM_reachBy (90, [some (vR (sg 13)), some (vI (nI q)), some (vI (nI o)), some (vI (nI (psN c o n g s))), some (vI (nI i)), some (vI (nI (c 3))), x6'], [], w) r → Rn none 1 jM_reachBy (17, [some (vR (sg 13)), some (vI (nI q)), some (vI (nI o)), some (vI (nI s)), some (vI (nI i)), some (vI (nI g)), x6], [], w) r := by
    intro n
    induction n with
    | zero =>
      intro g s i x6 hg
      obtain rfl : g = c 3 := by omega
      refine ⟨x6, fun r k => ?_⟩
      refine Rn.cv 60 rfl rfl rfl rfl rfl (m_G h) (by decide) ?_
      exact Rn.if2t 60 rfl rfl (nI_le (Nat.le_refl _) (by omega)) k
    | succ n ih =>
      intro g s i x6 hg
      have hgl : g < c 3 := by omega
      obtain ⟨x6', ih⟩ := ih (g + 1) (bif o.testBit g && tch c s g then s ||| eN c g else s) i (some (vI (nI (eN c g)))) (by omega)
      refine ⟨x6', fun r k => ?_⟩
      have k1 := ih r (by unfold psN at k; exact k)
      rw [nI_succ g] at k1
      refine Rn.cv 60 rfl rfl rfl rfl rfl (m_G h) (by decide) ?_
      refine Rn.if2f 60 rfl rfl (nI_ge hgl (by omega)) ?_
      refine Rn.cv 60 rfl rfl rfl rfl rfl (m_gA hc h hgl) (by decide) ?_
      refine Rn.cv 60 rfl rfl rfl rfl rfl (m_gB hc h hgl) (by decide) ?_
      refine Rn.at 3 (x := (58, [some (vR (sg 13)), some (vI (nI q)), some (vI (nI o)), some (vI (nI s)), some (vI (nI i)), some (vI (nI g)), some (vI (nI (eN c g)))], [], w)) (by rw [← m_ends hc hgl]; rfl) ?_
      have no : (o.testBit g && tch c s g) = false → Rn none 1 jM_reachBy (81, [some (vR (sg 13)), some (vI (nI q)), some (vI (nI o)), some (vI (nI s)), some (vI (nI i)), some (vI (nI g)), some (vI (nI (eN c g)))], [vI (nI s)], w) r := by
        intro e
        rw [e, cond_false, ← Nat.or_zero s, ← nJ_or] at k1
        exact Rn.at 5 rfl k1
      cases ho : o.testBit g with
      | false =>
        refine Rn.if2t 60 rfl rfl (by dsimp only [tm_c2P]; rw [nJ_bit (by omega) (by omega), bI_eq1, ho]; exact fun z => by cases z) ?_
        exact no (by rw [ho, Bool.false_and])
      | true =>
        refine Rn.if2f 60 rfl rfl (by dsimp only [tm_c2P]; rw [nJ_bit (by omega) (by omega), bI_eq1, ho]; exact fun z => z rfl) ?_
        cases ht : tch c s g with
        | false =>
          refine Rn.if1t 60 rfl rfl ((tch_nI hc hgl s).mpr ht) ?_
          exact no (by rw [ht, Bool.and_false])
        | true =>
          refine Rn.if1f 60 rfl rfl (by dsimp only [tm_c2P]; rw [tch_nI hc hgl s, ht]; exact fun z => by cases z) ?_
          rw [ho, ht, Bool.and_self, cond_true, ← nJ_or] at k1
          exact Rn.at 6 rfl k1
  have outer : ∀ n i s x5 x6, i + n = 6 → Rn none 1 jM_reachBy (7, [some (vR (sg 13)), some (vI (nI q)), some (vI (nI o)), some (vI (nI s)), some (vI (nI i)), x5, x6], [], w) (some (vI (nI (rcN c o n s))), w) := by
    intro n
    induction n with
    | zero =>
      intro i s x5 x6 hi
      obtain rfl : i = 6 := by omega
      refine Rn.if2t 60 rfl rfl (by dsimp only [tm_c2P]; decide) ?_
      exact Rn.ir 60 rfl rfl rfl rfl
    | succ n ih =>
      intro i s x5 x6 hi
      obtain ⟨x6', k⟩ := inner (c 3) 0 s i x6 (by omega)
      refine Rn.if2f 60 rfl rfl (nI_ge (by omega) (by omega)) ?_
      refine Rn.at 2 rfl (k _ ?_)
      have k2 := ih (i + 1) (psN c o (c 3) 0 s) (some (vI (nI (c 3)))) x6' (by omega)
      rw [nI_succ i] at k2
      unfold rcN
      exact Rn.at 2 rfl k2
  refine Cl.of rfl rfl rfl (lc := [some (vR (sg 13)), some (vI (nI q)), some (vI (nI o)), none, none, none, none]) rfl ?_
  have k := outer 6 0 (2 ^ q) none none (by omega)
  rw [← nJ_1shl (by omega)] at k
  exact Rn.at 6 rfl k
theorem stT_none {c : Nat → Nat} {o s g : Nat} : ∀ k, (∀ j, j < k → tch c (lvs c o s j) g = false) → stT c o s g k = 100
  | 0, _ => rfl
  | k + 1, h => by
    unfold stT
    rw [h k (by omega), cond_false]
    exact stT_none k (fun j hj => h j (by omega))
theorem stT_first {c : Nat → Nat} {o s g n : Nat} (h : ∀ j, j < n → tch c (lvs c o s j) g = false) (ht : tch c (lvs c o s n) g = true) (hn : n ≤ 100) : ∀ k, stT c o s g (n + 1 + k) = n
  | 0 => by
    show stT c o s g (n + 1) = n
    unfold stT
    rw [ht, cond_true, stT_none n h]
    omega
  | k + 1 => by
    show stT c o s g ((n + 1 + k) + 1) = n
    unfold stT
    rw [stT_first h ht hn k]
    cases tch c (lvs c o s (n + 1 + k)) g
    · rfl
    · show min n (n + 1 + k) = n
      omega
/-- steps as told: none is the number for none -/
def sI (s : Nat) : Int32 := if s = 100 then -(nI 1000000) else nI s
theorem m_stepsBy {w : Wd} {c : Nat → Nat} {o q g : Nat} (hc : PlOk c) (h : MPl w c) (h8 : o < 256) (hq : q < c 0) (hg : g < c 3) : Cl 2 jM_stepsBy [vR (sg 13), vI (nI q), vI (nI g), vI (nI o)] w (some (vI (sI (stT c o (2 ^ q) g 6))), w) := by
  have hc3 := hc.2.1
  have hc0 := hc.1
  have inner : ∀ n i m j s x9, i + n = c 3 → ∃ x9', ∀ r, Rn none 1 jM_stepsBy (138, [some (vR (sg 13)), some (vI (nI q)), some (vI (nI g)), some (vI (nI o)), some (vI (nI (eN c g))), some (vI (nI s)), some (vI (nI j)), some (vI (nI (lvN c o s n i m))), some (vI (nI (c 3))), x9'], [], w) r → Rn none 1 jM_stepsBy (62, [some (vR (sg 13)), some (vI (nI q)), some (vI (nI g)), some (vI (nI o)), some (vI (nI (eN c g))), some (vI (nI s)), some (vI (nI j)), some (vI (nI m)), some (vI (nI i)), x9], [], w) r := by
    intro n
    induction n with
    | zero =>
      intro i m j s x9 hi
      obtain rfl : i = c 3 := by omega
      refine ⟨x9, fun r k => ?_⟩
      refine Rn.cv 60 rfl rfl rfl rfl rfl (m_G h) (by decide) ?_
      exact Rn.if2t 60 rfl rfl (nI_le (Nat.le_refl _) (by omega)) k
    | succ n ih =>
      intro i m j s x9 hi
      have hil : i < c 3 := by omega
      obtain ⟨x9', ih⟩ := ih (i + 1) (bif o.testBit i && tch c s i then m ||| eN c i else m) j s (some (vI (nI (eN c i)))) (by omega)
      refine ⟨x9', fun r k => ?_⟩
      have k1 := ih r (by unfold lvN at k; exact k)
      rw [nI_succ i] at k1
      refine Rn.cv 60 rfl rfl rfl rfl rfl (m_G h) (by decide) ?_
      refine Rn.if2f 60 rfl rfl (nI_ge hil (by omega)) ?_
      refine Rn.cv 60 rfl rfl rfl rfl rfl (m_gA hc h hil) (by decide) ?_
      refine Rn.cv 60 rfl rfl rfl rfl rfl (m_gB hc h hil) (by decide) ?_
      refine Rn.at 3 (x := (103, [some (vR (sg 13)), some (vI (nI q)), some (vI (nI g)), some (vI (nI o)), some (vI (nI (eN c g))), some (vI (nI s)), some (vI (nI j)), some (vI (nI m)), some (vI (nI i)), some (vI (nI (eN c i)))], [], w)) (by rw [← m_ends hc hil]; rfl) ?_
      have no : (o.testBit i && tch c s i) = false → Rn none 1 jM_stepsBy (128, [some (vR (sg 13)), some (vI (nI q)), some (vI (nI g)), some (vI (nI o)), some (vI (nI (eN c g))), some (vI (nI s)), some (vI (nI j)), some (vI (nI m)), some (vI (nI i)), some (vI (nI (eN c i)))], [vI (nI m)], w) r := by
        intro e
        rw [e, cond_false, ← Nat.or_zero m, ← nJ_or] at k1
        exact Rn.at 5 rfl k1
      cases ho : o.testBit i with
      | false =>
        refine Rn.if2t 60 rfl rfl (by dsimp only [tm_c2P]; rw [nJ_bit (by omega) (by omega), bI_eq1, ho]; exact fun z => by cases z) ?_
        exact no (by rw [ho, Bool.false_and])
      | true =>
        refine Rn.if2f 60 rfl rfl (by dsimp only [tm_c2P]; rw [nJ_bit (by omega) (by omega), bI_eq1, ho]; exact fun z => z rfl) ?_
        cases ht : tch c s i with
        | false =>
          refine Rn.if1t 60 rfl rfl ((tch_nI hc hil s).mpr ht) ?_
          exact no (by rw [ht, Bool.and_false])
        | true =>
          refine Rn.if1f 60 rfl rfl (by dsimp only [tm_c2P]; rw [tch_nI hc hil s, ht]; exact fun z => by cases z) ?_
          rw [ho, ht, Bool.and_self, cond_true, ← nJ_or] at k1
          exact Rn.at 6 rfl k1
  have outer : ∀ n j x7 x8 x9, j + n = 6 → (∀ i, i < j → tch c (lvs c o (2 ^ q) i) g = false) → Rn none 1 jM_stepsBy (37, [some (vR (sg 13)), some (vI (nI q)), some (vI (nI g)), some (vI (nI o)), some (vI (nI (eN c g))), some (vI (nI (lvs c o (2 ^ q) j))), some (vI (nI j)), x7, x8, x9], [], w) (some (vI (sI (stT c o (2 ^ q) g 6))), w) := by
    intro n
    induction n with
    | zero =>
      intro j x7 x8 x9 hj hno
      obtain rfl : j = 6 := by omega
      refine Rn.if2t 60 rfl rfl (by dsimp only [tm_c2P]; decide) ?_
      rw [stT_none 6 hno]
      exact Rn.ir 60 rfl rfl rfl rfl
    | succ n ih =>
      intro j x7 x8 x9 hj hno
      refine Rn.if2f 60 rfl rfl (nI_ge (by omega) (by omega)) ?_
      cases ht : tch c (lvs c o (2 ^ q) j) g with
      | true =>
        refine Rn.if1f 60 rfl rfl (by dsimp only [tm_c2P]; rw [tch_nI hc hg _, ht]; exact fun z => by cases z) ?_
        have e := stT_first hno ht (by omega) (5 - j)
        rw [show j + 1 + (5 - j) = 6 by omega] at e
        rw [e]
        refine Rn.ir 60 rfl rfl rfl ?_
        unfold sI
        rw [if_neg (by omega)]
      | false =>
        refine Rn.if1t 60 rfl rfl ((tch_nI hc hg _).mpr ht) ?_
        obtain ⟨x9', k⟩ := inner (c 3) 0 (lvs c o (2 ^ q) j) j (lvs c o (2 ^ q) j) x9 (by omega)
        refine Rn.at 4 rfl (k _ ?_)
        have k2 := ih (j + 1) (some (vI (nI (lvs c o (2 ^ q) (j + 1))))) (some (vI (nI (c 3)))) x9' (by omega) (fun i hi => by
          by_cases e : i = j
          · subst e
            exact ht
          · exact hno i (by omega))
        rw [nI_succ j] at k2
        exact Rn.at 4 rfl k2
  refine Cl.of rfl rfl rfl (lc := [some (vR (sg 13)), some (vI (nI q)), some (vI (nI g)), some (vI (nI o)), none, none, none, none, none, none]) rfl ?_
  refine Rn.cv 60 rfl rfl rfl rfl rfl (m_gA hc h hg) (by decide) ?_
  refine Rn.cv 60 rfl rfl rfl rfl rfl (m_gB hc h hg) (by decide) ?_
  refine Rn.at 3 (x := (29, [some (vR (sg 13)), some (vI (nI q)), some (vI (nI g)), some (vI (nI o)), some (vI (nI (eN c g))), none, none, none, none, none], [], w)) (by rw [← m_ends hc hg]; rfl) ?_
  have k := outer 6 0 none none none (by omega) (fun i hi => absurd hi (by omega))
  rw [show lvs c o (2 ^ q) 0 = 2 ^ q from rfl, ← nJ_1shl (by omega)] at k
  exact Rn.at 6 rfl k
end
section
/-! the reference's town: walled in, glad, votes, dawn -/
theorem m_isWalledIn {w : Wd} {c : Nat → Nat} {o p : Nat} (hc : PlOk c) (h : MPl w c) (h8 : o < 256) (hp : p < c 4) : Cl 3 jM_isWalledIn [vR (sg 13), vI (nI p), vI (nI o)] w (some (vI (bI (wd c o p))), w) := by
  have hc3 := hc.2.1
  have hc0 := hc.1
  obtain ⟨_, q1, _, _⟩ := hc.2.2.2.2 p hp
  have key : ∀ n g (b : Bool) x5, g + n = c 3 → Rn none 2 jM_isWalledIn (5, [some (vR (sg 13)), some (vI (nI p)), some (vI (nI o)), some (vI (bI b)), some (vI (nI g)), x5], [], w) (some (vI (bI (b && wdN c o p n g))), w) := by
    intro n
    induction n with
    | zero =>
      intro g b x5 hg
      obtain rfl : g = c 3 := by omega
      refine Rn.cv 60 rfl rfl rfl rfl rfl (m_G h) (by decide) ?_
      refine Rn.if2t 60 rfl rfl (nI_le (Nat.le_refl _) (by omega)) ?_
      unfold wdN
      rw [Bool.and_true]
      exact Rn.zr 60 rfl rfl rfl (by cases b <;> decide) rfl
    | succ n ih =>
      intro g b x5 hg
      have hgl : g < c 3 := by omega
      obtain ⟨a1, a2⟩ := hc.2.2.2.1 g hgl
      refine Rn.cv 60 rfl rfl rfl rfl rfl (m_G h) (by decide) ?_
      refine Rn.if2f 60 rfl rfl (nI_ge hgl (by omega)) ?_
      refine Rn.cv 60 rfl rfl rfl rfl rfl (m_gA hc h hgl) (by decide) ?_
      refine Rn.cv 60 rfl rfl rfl rfl rfl (m_ho hc h hp) (by decide) ?_
      have k1 := ih (g + 1) (b && !(atH c p g && o.testBit g)) (some (vI (bI (atH c p g)))) (by omega)
      have e : (b && wdN c o p (n + 1) g) = ((b && !(atH c p g && o.testBit g)) && wdN c o p n (g + 1)) := by
        rw [wdN]
        cases atH c p g && o.testBit g <;> simp
      rw [e]
      rw [nI_succ g] at k1
      have fin : Rn none 2 jM_isWalledIn (64, [some (vR (sg 13)), some (vI (nI p)), some (vI (nI o)), some (vI (bI b)), some (vI (nI g)), some (vI (bI (atH c p g)))], [], w) (some (vI (bI ((b && !(atH c p g && o.testBit g)) && wdN c o p n (g + 1)))), w) := by
        cases b with
        | false =>
          refine Rn.if1t 60 rfl rfl (by dsimp only [tm_c2P]; decide) ?_
          rw [Bool.false_and] at k1
          exact Rn.at 4 rfl k1
        | true =>
          refine Rn.if1f 60 rfl rfl (by dsimp only [tm_c2P]; decide) ?_
          cases ha : atH c p g with
          | false =>
            rw [ha, Bool.false_and] at k1
            refine Rn.if1t 60 rfl rfl (by dsimp only [tm_c2P]; decide) ?_
            exact Rn.at 5 rfl k1
          | true =>
            rw [ha, Bool.true_and] at k1
            refine Rn.if1f 60 rfl rfl (by dsimp only [tm_c2P]; decide) ?_
            cases ho : o.testBit g with
            | true =>
              rw [ho] at k1
              refine Rn.if2t 60 rfl rfl (by dsimp only [tm_c2P]; rw [nJ_bit (by omega) (by omega), bI_eq1, ho]) ?_
              exact Rn.at 4 rfl k1
            | false =>
              rw [ho] at k1
              refine Rn.if2f 60 rfl rfl (by dsimp only [tm_c2P]; rw [nJ_bit (by omega) (by omega), bI_eq1, ho]; exact fun z => by cases z) ?_
              exact Rn.at 5 rfl k1
      by_cases e1 : c (8 + 2 * g) = ho c p
      · refine Rn.if2t 60 rfl rfl (by dsimp only [tm_c2P]; rw [e1]) ?_
        have ea : atH c p g = true := by unfold atH; rw [decide_eq_true e1, Bool.true_or]
        rw [ea] at fin ⊢
        exact Rn.at 3 rfl fin
      · refine Rn.if2f 60 rfl rfl (by dsimp only [tm_c2P]; rw [nI_eq (by omega) (by omega)]; exact e1) ?_
        refine Rn.cv 60 rfl rfl rfl rfl rfl (m_gB hc h hgl) (by decide) ?_
        refine Rn.cv 60 rfl rfl rfl rfl rfl (m_ho hc h hp) (by decide) ?_
        by_cases e2 : c (9 + 2 * g) = ho c p
        · refine Rn.if2f 60 rfl rfl (by dsimp only [tm_c2P]; rw [e2]; exact fun z => z rfl) ?_
          have ea : atH c p g = true := by unfold atH; rw [decide_eq_true e2, Bool.or_true]
          rw [ea] at fin ⊢
          exact Rn.at 3 rfl fin
        · refine Rn.if2t 60 rfl rfl (by dsimp only [tm_c2P]; rw [nI_eq (by omega) (by omega)]; exact e2) ?_
          have ea : atH c p g = false := by unfold atH; rw [decide_eq_false e1, decide_eq_false e2, Bool.or_false]
          rw [ea] at fin ⊢
          exact Rn.at 2 rfl fin
  refine Cl.of rfl rfl rfl (lc := [some (vR (sg 13)), some (vI (nI p)), some (vI (nI o)), none, none, none]) rfl ?_
  have k := key (c 3) 0 true none (by omega)
  rw [Bool.true_and] at k
  exact Rn.at 4 rfl k
theorem m_walledBy {w : Wd} {c : Nat → Nat} {o : Nat} (hc : PlOk c) (h : MPl w c) (h8 : o < 256) : Cl 4 jM_walledBy [vR (sg 13), vI (nI o)] w (some (vI (nI (bs (wd c o) (c 4)))), w) := by
  have hc4 := hc.2.2.1
  have key : ∀ n p s, p + n = c 4 → Rn none 3 jM_walledBy (4, [some (vR (sg 13)), some (vI (nI o)), some (vI (nI s)), some (vI (nI p))], [], w) (some (vI (nI (bsN (wd c o) n p s))), w) := by
    intro n
    induction n with
    | zero =>
      intro p s hp
      obtain rfl : p = c 4 := by omega
      refine Rn.cv 60 rfl rfl rfl rfl rfl (m_P h) (by decide) ?_
      refine Rn.if2t 60 rfl rfl (nI_le (Nat.le_refl _) (by omega)) ?_
      exact Rn.ir 60 rfl rfl rfl rfl
    | succ n ih =>
      intro p s hp
      have k := ih (p + 1) (s ||| bif wd c o p then 2 ^ p else 0) (by omega)
      refine Rn.cv 60 rfl rfl rfl rfl rfl (m_P h) (by decide) ?_
      refine Rn.if2f 60 rfl rfl (nI_ge (by omega) (by omega)) ?_
      refine Rn.cv 60 rfl rfl rfl rfl rfl (m_isWalledIn hc h h8 (by omega)) (by decide) ?_
      unfold bsN
      rw [nI_succ p, ← nJ_or] at k
      cases hw : wd c o p with
      | true =>
        rw [hw, cond_true, ← nJ_1shl (by omega)] at k
        refine Rn.if1f 60 rfl rfl (by dsimp only [tm_c2P]; decide) ?_
        exact Rn.at 8 rfl k
      | false =>
        rw [hw, cond_false] at k
        refine Rn.if1t 60 rfl rfl (by dsimp only [tm_c2P]; decide) ?_
        exact Rn.at 5 rfl k
  refine Cl.of rfl rfl rfl (lc := [some (vR (sg 13)), some (vI (nI o)), none, none]) rfl ?_
  exact Rn.at 4 rfl (key (c 4) 0 0 (by omega))
theorem bI_shl {b : Bool} {p : Nat} (hp : p < 31) : bI b <<< (nI p &&& 31) = nI (bif b then 2 ^ p else 0) := by
  cases b
  · rw [bI_f, nJ_shl (by omega) (by rw [Nat.zero_mul]; decide), Nat.zero_mul]
    rfl
  · rw [bI_t, nJ_1shl (by omega)]
    rfl
theorem m_gladBy {w : Wd} {c : Nat → Nat} {o : Nat} (hc : PlOk c) (h : MPl w c) (h8 : o < 256) : Cl 3 jM_gladBy [vR (sg 13), vI (nI o)] w (some (vI (nI (bs (gl c o) (c 4)))), w) := by
  have hc4 := hc.2.2.1
  have hc0 := hc.1
  have key : ∀ n p s, p + n = c 4 → Rn none 2 jM_gladBy (4, [some (vR (sg 13)), some (vI (nI o)), some (vI (nI s)), some (vI (nI p))], [], w) (some (vI (nI (bsN (gl c o) n p s))), w) := by
    intro n
    induction n with
    | zero =>
      intro p s hp
      obtain rfl : p = c 4 := by omega
      refine Rn.cv 60 rfl rfl rfl rfl rfl (m_P h) (by decide) ?_
      refine Rn.if2t 60 rfl rfl (nI_le (Nat.le_refl _) (by omega)) ?_
      exact Rn.ir 60 rfl rfl rfl rfl
    | succ n ih =>
      intro p s hp
      have hpl : p < c 4 := by omega
      obtain ⟨_, q1, q2, _⟩ := hc.2.2.2.2 p hpl
      have k := ih (p + 1) (s ||| bif gl c o p then 2 ^ p else 0) (by omega)
      refine Rn.cv 60 rfl rfl rfl rfl rfl (m_P h) (by decide) ?_
      refine Rn.if2f 60 rfl rfl (nI_ge (by omega) (by omega)) ?_
      refine Rn.cv 60 rfl rfl rfl rfl rfl (m_ho hc h hpl) (by decide) ?_
      refine Rn.cv 60 rfl rfl rfl rfl rfl (m_reachBy hc h h8 q1) (by decide) ?_
      refine Rn.cv 60 rfl rfl rfl rfl rfl (m_er hc h hpl) (by decide) ?_
      unfold bsN
      rw [nI_succ p, ← nJ_or, ← bI_shl (by omega)] at k
      have er := rc_lt hc o q1
      unfold gl at k ⊢
      rw [← nJ_bit (by omega) (by omega)] at k
      exact Rn.at 9 rfl k
  refine Cl.of rfl rfl rfl (lc := [some (vR (sg 13)), some (vI (nI o)), none, none]) rfl ?_
  exact Rn.at 4 rfl (key (c 4) 0 0 (by omega))
/-- what the reference foretells on: gates, vetoes, near, tie, wishes -/
def MWk (w : Wd) (c : Nat → Nat) (nr ti o sp : Nat) (wf : Nat → Nat) : Prop := w (sg 13) 18 = nI o ∧ w (sg 13) 19 = nI sp ∧ w (sg 13) 21 = nI nr ∧ w (sg 13) 22 = nI ti ∧ ∀ p, p < c 4 → w (sg 21) p = nI (wf p)
theorem sI_near {s nr : Nat} (hs : s ≤ 100) (hn : nr ≤ 3) : (decide (nI 0 ≤ sI s) && decide (sI s ≤ nI nr)) = decide (s ≤ nr) := by
  unfold sI
  by_cases e : s = 100
  · subst e
    rw [if_pos rfl, decide_eq_false (show ¬ (100 ≤ nr) by omega), decide_eq_false (show ¬ nI 0 ≤ -(nI 1000000) by decide), Bool.false_and]
  · rw [if_neg e, decide_eq_true (show nI 0 ≤ nI s from nI_pos' (by omega)), Bool.true_and]
    exact decide_eq_decide.mpr (nJ_le (by omega) (by omega))
theorem m_isNear {w : Wd} {c : Nat → Nat} {nr ti o sp p g : Nat} {wf : Nat → Nat} (hc : PlOk c) (h : MPl w c) (hk : MWk w c nr ti o sp wf) (hd : DyOk c nr ti o sp wf) (hp : p < c 4) (hg : g < c 3) : Cl 3 jM_isNear [vR (sg 13), vI (nI p), vI (nI g)] w (some (vI (bI (decide (st c o p g ≤ nr)))), w) := by
  obtain ⟨_, q1, _, _⟩ := hc.2.2.2.2 p hp
  refine Cl.of rfl rfl rfl (lc := [some (vR (sg 13)), some (vI (nI p)), some (vI (nI g))]) rfl ?_
  refine Rn.cv 60 rfl rfl rfl rfl rfl (m_ho hc h hp) (by decide) ?_
  have h1 := m_stepsBy (o := o) hc h hd.2.2.1 q1 hg
  rw [← hk.1] at h1
  refine Rn.cv 60 rfl rfl rfl rfl rfl h1 (by decide) ?_
  have h2 := m_in (w := w) (x := sI (stT c o (2 ^ ho c p) g 6)) (y := nI 0) (z := nI nr)
  rw [sI_near (stT_100 6) hd.1, ← hk.2.2.1] at h2
  refine Rn.cs 60 rfl rfl rfl rfl h2 (by decide) ?_
  exact Rn.zr 60 rfl rfl rfl (bI01 _) rfl
theorem m_weightOf {w : Wd} {c : Nat → Nat} {nr ti o sp p g : Nat} {wf : Nat → Nat} (hc : PlOk c) (h : MPl w c) (hk : MWk w c nr ti o sp wf) (hd : DyOk c nr ti o sp wf) (hp : p < c 4) (hg : g < c 3) : Cl 4 jM_weightOf [vR (sg 13), vI (nI p), vI (nI g)] w (some (vI (nI (vc c nr o p g))), w) := by
  obtain ⟨q0, q1, _, q3⟩ := hc.2.2.2.2 p hp
  refine Cl.of rfl rfl rfl (lc := [some (vR (sg 13)), some (vI (nI p)), some (vI (nI g)), none, none]) rfl ?_
  refine Rn.cv 60 rfl rfl rfl rfl rfl (m_so hc h hp) (by decide) ?_
  unfold vc
  by_cases e5 : so c p = 5
  · rw [if_pos e5]
    refine Rn.if2f 60 rfl rfl (by dsimp only [tm_c2P]; rw [e5]; exact fun z => z rfl) ?_
    exact Rn.ir 60 rfl rfl rfl rfl
  rw [if_neg e5]
  refine Rn.if2t 60 rfl rfl (by dsimp only [tm_c2P]; rw [nI_eq (by omega) (by omega)]; exact e5) ?_
  refine Rn.cv 60 rfl rfl rfl rfl rfl (m_isNear hc h hk hd hp hg) (by decide) ?_
  by_cases en : st c o p g ≤ nr
  · rw [if_pos en, decide_eq_true en]
    refine Rn.if1f 60 rfl rfl (by dsimp only [tm_c2P]; decide) ?_
    refine Rn.cv 60 rfl rfl rfl rfl rfl (m_we hc h hp) (by decide) ?_
    refine Rn.cv 60 rfl rfl rfl rfl rfl (m_ho hc h hp) (by decide) ?_
    have h1 := m_stepsBy (o := o) hc h hd.2.2.1 q1 hg
    have hs : sI (stT c o (2 ^ ho c p) g 6) = nI (st c o p g) := by
      have := hd.1
      unfold sI
      rw [if_neg (by unfold st at en; omega)]
      rfl
    rw [hs, ← hk.1] at h1
    refine Rn.cv 60 rfl rfl rfl rfl rfl h1 (by decide) ?_
    have n3 := hd.1
    rcases Nat.lt_or_ge (we c p) (st c o p g) with hl | hl
    · refine Rn.if1f 60 rfl rfl (by dsimp only [tm_c2P]; rw [Int32.not_le]; exact pk_sneg (by omega) hl) ?_
      rw [show we c p - st c o p g = 0 by omega]
      exact Rn.ir 60 rfl rfl rfl rfl
    · refine Rn.if1t 60 rfl rfl (by dsimp only [tm_c2P]; rw [pk_sub hl]; exact nI_pos' (by omega)) ?_
      rw [← pk_sub hl]
      exact Rn.ir 60 rfl rfl rfl rfl
  · rw [if_neg en, decide_eq_false en]
    refine Rn.if1t 60 rfl rfl (by dsimp only [tm_c2P]; decide) ?_
    by_cases e2 : so c p = 2
    · rw [decide_eq_true e2, Bool.true_and]
      refine Rn.if2f 60 rfl rfl (by dsimp only [tm_c2P]; rw [e2]; exact fun z => z rfl) ?_
      have h1 := m_isWalledIn (o := o) hc h hd.2.2.1 hp
      rw [← hk.1] at h1
      refine Rn.cv 60 rfl rfl rfl rfl rfl h1 (by decide) ?_
      cases hw : wd c o p with
      | true =>
        refine Rn.if1f 60 rfl rfl (by dsimp only [tm_c2P]; decide) ?_
        exact Rn.ir 60 rfl rfl rfl rfl
      | false =>
        refine Rn.if1t 60 rfl rfl (by dsimp only [tm_c2P]; decide) ?_
        exact Rn.ir 60 rfl rfl rfl rfl
    · rw [decide_eq_false e2, Bool.false_and]
      refine Rn.if2t 60 rfl rfl (by dsimp only [tm_c2P]; rw [nI_eq (by omega) (by omega)]; exact e2) ?_
      exact Rn.ir 60 rfl rfl rfl rfl
theorem m_votesOpen {w : Wd} {c : Nat → Nat} {nr ti o sp p g : Nat} {wf : Nat → Nat} (hc : PlOk c) (h : MPl w c) (hk : MWk w c nr ti o sp wf) (hd : DyOk c nr ti o sp wf) (hp : p < c 4) (hg : g < c 3) : Cl 3 jM_votesOpen [vR (sg 13), vI (nI p), vI (nI g)] w (some (vI (bI (fo c o wf p g))), w) := by
  have hc3 := hc.2.1
  have hc4 := hc.2.2.1
  obtain ⟨q0, q1, _, q3⟩ := hc.2.2.2.2 p hp
  have w8 := hd.2.2.2.2 p hp
  have o8 := hd.2.2.1
  refine Cl.of rfl rfl rfl (lc := [some (vR (sg 13)), some (vI (nI p)), some (vI (nI g))]) rfl ?_
  refine Rn.cv 60 rfl rfl rfl rfl rfl (m_so hc h hp) (by decide) ?_
  unfold fo
  by_cases e : so c p = 3
  · rw [if_pos e]
    refine Rn.if2f 60 rfl rfl (by dsimp only [tm_c2P]; rw [e]; exact fun z => z rfl) ?_
    cases hb : o.testBit g with
    | true =>
      refine Rn.if2f 60 rfl rfl (by dsimp only [tm_c2P]; rw [hk.1, nJ_bit (by omega) (by omega), bI_eq1, hb]; exact fun z => z rfl) ?_
      exact Rn.zr 60 rfl rfl rfl (by decide) rfl
    | false =>
      refine Rn.if2t 60 rfl rfl (by dsimp only [tm_c2P]; rw [hk.1, nJ_bit (by omega) (by omega), bI_eq1, hb]; exact fun z => by cases z) ?_
      exact Rn.zr 60 rfl rfl rfl (by decide) rfl
  · rw [if_neg e]
    refine Rn.if2t 60 rfl rfl (by dsimp only [tm_c2P]; rw [nI_eq (by omega) (by omega)]; exact e) ?_
    refine Rn.al 60 rfl rfl rfl rfl (by omega) ?_
    rw [hk.2.2.2.2 p hp]
    cases hb : (wf p).testBit g with
    | true =>
      refine Rn.if2f 60 rfl rfl (by dsimp only [tm_c2P]; rw [nJ_bit (by omega) (by omega), bI_eq1, hb]; exact fun z => z rfl) ?_
      exact Rn.zr 60 rfl rfl rfl (by decide) rfl
    | false =>
      refine Rn.if2t 60 rfl rfl (by dsimp only [tm_c2P]; rw [nJ_bit (by omega) (by omega), bI_eq1, hb]; exact fun z => by cases z) ?_
      exact Rn.zr 60 rfl rfl rfl (by decide) rfl
theorem m_sumOf {w : Wd} {c : Nat → Nat} {nr ti o sp g : Nat} {wf : Nat → Nat} (b : Bool) (hc : PlOk c) (h : MPl w c) (hk : MWk w c nr ti o sp wf) (hd : DyOk c nr ti o sp wf) (hg : g < c 3) : Cl 5 jM_sumOf [vR (sg 13), vI (nI g), vI (bI b)] w (some (vI (nI (su c nr o wf g b))), w) := by
  have hc4 := hc.2.2.1
  have key : ∀ n p a, p + n = c 4 → Rn none 4 jM_sumOf (5, [some (vR (sg 13)), some (vI (nI g)), some (vI (bI b)), some (vI (nI a)), some (vI (nI p))], [], w) (some (vI (nI (suN c nr o wf g b n p a))), w) := by
    intro n
    induction n with
    | zero =>
      intro p a hp
      obtain rfl : p = c 4 := by omega
      refine Rn.cv 60 rfl rfl rfl rfl rfl (m_P h) (by decide) ?_
      refine Rn.if2t 60 rfl rfl (nI_le (Nat.le_refl _) (by omega)) ?_
      exact Rn.ir 60 rfl rfl rfl rfl
    | succ n ih =>
      intro p a hp
      have hpl : p < c 4 := by omega
      refine Rn.cv 60 rfl rfl rfl rfl rfl (m_P h) (by decide) ?_
      refine Rn.if2f 60 rfl rfl (nI_ge hpl (by omega)) ?_
      refine Rn.cv 60 rfl rfl rfl rfl rfl (m_votesOpen hc h hk hd hpl hg) (by decide) ?_
      unfold suN
      by_cases e : fo c o wf p g = b
      · rw [if_pos e]
        refine Rn.if2f 60 rfl rfl (by dsimp only [tm_c2P]; rw [bI_inj]; exact fun z => z e) ?_
        refine Rn.cv 60 rfl rfl rfl rfl rfl (m_weightOf hc h hk hd hpl hg) (by decide) ?_
        have k := ih (p + 1) (a + vc c nr o p g) (by omega)
        rw [nI_succ p, ← nI_add] at k
        exact Rn.at 5 rfl k
      · rw [if_neg e]
        refine Rn.if2t 60 rfl rfl (by dsimp only [tm_c2P]; rw [bI_inj]; exact e) ?_
        have k := ih (p + 1) (a + 0) (by omega)
        rw [nI_succ p, ← nI_add] at k
        exact Rn.at 5 rfl k
  refine Cl.of rfl rfl rfl (lc := [some (vR (sg 13)), some (vI (nI g)), some (vI (bI b)), none, none]) rfl ?_
  exact Rn.at 4 rfl (key (c 4) 0 0 (by omega))
end
section
/-! the reference's dawn -/
def MFr (w w' : Wd) : Prop := (∀ t, t ≠ sg 13 → t ≠ sg 21 → w' t = w t) ∧ ∀ j, j ≠ 18 → j ≠ 19 → j ≠ 21 → j ≠ 22 → w' (sg 13) j = w (sg 13) j
theorem MFr.rf {w : Wd} : MFr w w := ⟨fun _ _ _ => rfl, fun _ _ _ _ _ => rfl⟩
theorem MFr.tr {w w1 w2 : Wd} (h1 : MFr w w1) (h2 : MFr w1 w2) : MFr w w2 := ⟨fun t a b => (h2.1 t a b).trans (h1.1 t a b), fun j a b d e => (h2.2 j a b d e).trans (h1.2 j a b d e)⟩
theorem MFr.set {w : Wd} {j : Nat} {x : Int32} (h : j = 18 ∨ j = 19 ∨ j = 21 ∨ j = 22) : MFr w (wset w (sg 13) j x) := ⟨fun t a _ => wset_ne a, fun i a b d e => wset_k (by omega)⟩
theorem MFr.wis {w : Wd} {j : Nat} {x : Int32} : MFr w (wset w (sg 21) j x) := ⟨fun t _ b => wset_ne b, fun i a b d e => by rw [wset_ne (by decide)]⟩
theorem MFr.same {w w' : Wd} (h : MFr w w') {n : Nat} (hn : n ≠ 9) : Same n w w' := fun t j e => by
  by_cases h1 : t = sg 13
  · subst h1
    refine h.2 j (fun z => ?_) (fun z => ?_) (fun z => ?_) (fun z => ?_)
    all_goals
      subst z
      exact hn e.symm
  · by_cases h2 : t = sg 21
    · subst h2
      exact absurd e.symm hn
    · rw [h.1 t h1 h2]
theorem MPl.mfr {w w' : Wd} {c : Nat → Nat} (h : MPl w c) (f : MFr w w') : MPl w' c := h.fr (f.2 5 (by decide) (by decide) (by decide) (by decide)) (f.1 _ (by decide) (by decide))
theorem MaIs.mfr {w w' : Wd} {b : Nat} {c : Nat → Nat} {nr ti o sp dy : Nat} {wf : Nat → Nat} (h : MaIs w b c nr ti o sp dy wf) (f : MFr w w') : MaIs w' b c nr ti o sp dy wf := by
  unfold MaIs
  rw [f.1 _ (by decide) (by decide)]
  exact h
theorem MaIs.pl {w : Wd} {c : Nat → Nat} {nr ti o sp dy : Nat} {wf : Nat → Nat} (h : MaIs w 0 c nr ti o sp dy wf) (hb : w (sg 13) 5 = nI 0) : MPl w c := by
  obtain ⟨h1, h2, h3, h4, h5, h6, h7, h8, h9, h10⟩ := h
  simp only [Nat.zero_add] at h4 h5 h9 h10
  exact ⟨hb, h1, h4, h5, h9, fun p hp => ⟨(h10 p hp).1, (h10 p hp).2.1, (h10 p hp).2.2.1, (h10 p hp).2.2.2.2⟩⟩
theorem m_begin {w : Wd} {c : Nat → Nat} {nr ti o sp dy : Nat} {wf : Nat → Nat} (hc : PlOk c) (hb : w (sg 13) 5 = nI 0) (h : MaIs w 0 c nr ti o sp dy wf) : ∃ w', Cl 3 jM_begin [vR (sg 13)] w (none, w') ∧ MFr w w' ∧ MWk w' c nr ti o sp wf := by
  have hc4 := hc.2.2.1
  have h0 := h
  obtain ⟨h1, h2, h3, h4, h5, h6, h7, h8, h9, h10⟩ := h
  simp only [Nat.zero_add] at h2 h3 h7 h8 h10
  have e : ∀ {w' : Wd}, MFr w w' → w' (sg 17) = w (sg 17) ∧ w' (sg 13) 5 = nI 0 := fun f => ⟨f.1 _ (by decide) (by decide), (f.2 5 (by decide) (by decide) (by decide) (by decide)).trans hb⟩
  have key : ∀ n p w', p + n = c 4 → MFr w w' → w' (sg 13) 18 = nI o → w' (sg 13) 19 = nI sp → w' (sg 13) 21 = nI nr → w' (sg 13) 22 = nI ti → (∀ q, q < p → w' (sg 21) q = nI (wf q)) → ∃ w2, Rn none 2 jM_begin (40, [some (vR (sg 13)), some (vI (nI p))], [], w') (none, w2) ∧ MFr w w2 ∧ MWk w2 c nr ti o sp wf := by
    intro n
    induction n with
    | zero =>
      intro p w' hp f a1 a2 a3 a4 a5
      obtain rfl : p = c 4 := by omega
      refine ⟨w', ?_, f, a1, a2, a3, a4, a5⟩
      refine Rn.cv 60 rfl rfl rfl rfl rfl (m_P ((h0.mfr f).pl (e f).2)) (by decide) ?_
      refine Rn.if2t 60 rfl rfl (nI_le (Nat.le_refl _) (by omega)) ?_
      exact Rn.vr 60 rfl rfl rfl rfl
    | succ n ih =>
      intro p w' hp f a1 a2 a3 a4 a5
      obtain ⟨w2, b1, b2⟩ := ih (p + 1) (wset w' (sg 21) p (nI (wf p))) (by omega) (f.tr MFr.wis) (by rw [wset_ne (by decide)]; exact a1) (by rw [wset_ne (by decide)]; exact a2) (by rw [wset_ne (by decide)]; exact a3) (by rw [wset_ne (by decide)]; exact a4) (fun q hq => by
        by_cases eq : q = p
        · subst eq
          exact wset_s
        · rw [wset_k eq]
          exact a5 q (by omega))
      refine ⟨w2, ?_, b2⟩
      refine Rn.cv 60 rfl rfl rfl rfl rfl (m_P ((h0.mfr f).pl (e f).2)) (by decide) ?_
      refine Rn.if2f 60 rfl rfl (nI_ge (by omega) (by omega)) ?_
      refine Rn.cv 60 rfl rfl rfl rfl rfl (m_pers (p := p) (k := 3) (v := nI (wf p)) (e f).2 (by omega) (by rw [(e f).1, show 24 + 5 * p + 3 = 27 + 5 * p by omega]; exact (h10 p (by omega)).2.2.2.1)) (by decide) ?_
      refine Rn.as 60 rfl rfl rfl rfl (by omega) ?_
      rw [nI_succ p] at b1
      exact Rn.at 2 rfl b1
  have f1 : MFr w (wset w (sg 13) 18 (nI o)) := MFr.set (by decide)
  have f2 := f1.tr (MFr.set (j := 19) (x := nI sp) (by decide))
  have f3 := f2.tr (MFr.set (j := 21) (x := nI nr) (by decide))
  have f4 := f3.tr (MFr.set (j := 22) (x := nI ti) (by decide))
  obtain ⟨w2, b1, b2⟩ := key (c 4) 0 _ (by omega) f4 (by rw [wset_k (by decide), wset_k (by decide), wset_k (by decide), wset_s]) (by rw [wset_k (by decide), wset_k (by decide), wset_s]) (by rw [wset_k (by decide), wset_s]) wset_s (fun q hq => absurd hq (by omega))
  refine ⟨w2, ?_, b2⟩
  refine Cl.of rfl rfl rfl (lc := [some (vR (sg 13)), none]) rfl ?_
  refine Rn.cv 60 rfl rfl rfl rfl rfl (m_get (k := 6) (v := nI o) hb rfl (by decide) h7) (by decide) ?_
  refine Rn.cv 60 rfl rfl rfl rfl rfl (m_get (k := 7) (v := nI sp) (e f1).2 rfl (by decide) (by rw [(e f1).1]; exact h8)) (by decide) ?_
  refine Rn.cv 60 rfl rfl rfl rfl rfl (m_get (k := 1) (v := nI nr) (e f2).2 rfl (by decide) (by rw [(e f2).1]; exact h2)) (by decide) ?_
  refine Rn.cv 60 rfl rfl rfl rfl rfl (m_get (k := 2) (v := nI ti) (e f3).2 rfl (by decide) (by rw [(e f3).1]; exact h3)) (by decide) ?_
  exact Rn.at 3 rfl b1
def vS (c : Nat → Nat) (nr o : Nat) (wf : Nat → Nat) (g sp n p : Nat) : Nat × Bool := match vtN c nr o wf g sp n p with
  | some q => (sp ||| 2 ^ q, false)
  | none => (sp, true)
theorem m_vet {w : Wd} {c : Nat → Nat} {nr ti o sp0 g : Nat} {wf : Nat → Nat} (hc : PlOk c) (h : MPl w c) (hk : MWk w c nr ti o sp0 wf) (hd : DyOk c nr ti o sp0 wf) (hg : g < c 3) {x1 x4 : Option AV} {sp : Nat} (hs : sp < 32) : ∀ n p x7, p + n = c 4 → ∃ p' x7', ∀ r, Rn none 5 jM_dawns (167, [some (vR (sg 13)), x1, some (vI (nI (vS c nr o wf g sp n p).1)), some (vI (nI g)), x4, some (vI (bI (vS c nr o wf g sp n p).2)), some (vI (nI p')), x7'], [], w) r → Rn none 5 jM_dawns (79, [some (vR (sg 13)), x1, some (vI (nI sp)), some (vI (nI g)), x4, some (vI (bI true)), some (vI (nI p)), x7], [], w) r := by
  have hc3 := hc.2.1
  have hc4 := hc.2.2.1
  intro n
  induction n with
  | zero =>
    intro p x7 hp
    obtain rfl : p = c 4 := by omega
    refine ⟨c 4, x7, fun r k => ?_⟩
    refine Rn.cv 60 rfl rfl rfl rfl rfl (m_P h) (by decide) ?_
    exact Rn.if2t 60 rfl rfl (nI_le (Nat.le_refl _) (by omega)) k
  | succ n ih =>
    intro p x7 hp
    have hpl : p < c 4 := by omega
    obtain ⟨q0, q1, _, q3⟩ := hc.2.2.2.2 p hpl
    have w8 := hd.2.2.2.2 p hpl
    have head : ∀ r, Rn none 5 jM_dawns (120, [some (vR (sg 13)), x1, some (vI (nI sp)), some (vI (nI g)), x4, some (vI (bI true)), some (vI (nI p)), x7], [vI (bI (decide (so c p = 4) && !sp.testBit p))], w) r → Rn none 5 jM_dawns (79, [some (vR (sg 13)), x1, some (vI (nI sp)), some (vI (nI g)), x4, some (vI (bI true)), some (vI (nI p)), x7], [], w) r := by
      intro r k
      refine Rn.cv 60 rfl rfl rfl rfl rfl (m_P h) (by decide) ?_
      refine Rn.if2f 60 rfl rfl (nI_ge hpl (by omega)) ?_
      refine Rn.if2f 60 rfl rfl (by dsimp only [tm_c2P]; decide) ?_
      refine Rn.cv 60 rfl rfl rfl rfl rfl (m_so hc h hpl) (by decide) ?_
      by_cases e4 : so c p = 4
      · rw [decide_eq_true e4, Bool.true_and] at k
        refine Rn.if2f 60 rfl rfl (by dsimp only [tm_c2P]; rw [e4]; exact fun z => z rfl) ?_
        cases hb : sp.testBit p with
        | true =>
          rw [hb] at k
          refine Rn.if1t 60 rfl rfl (by dsimp only [tm_c2P]; rw [nJ_bit (by omega) (by omega), hb]; decide) ?_
          exact Rn.at 1 rfl k
        | false =>
          rw [hb] at k
          refine Rn.if1f 60 rfl rfl (by dsimp only [tm_c2P]; rw [nJ_bit (by omega) (by omega), hb]; decide) ?_
          exact Rn.at 2 rfl k
      · rw [decide_eq_false e4, Bool.false_and] at k
        refine Rn.if2t 60 rfl rfl (by dsimp only [tm_c2P]; rw [nI_eq (by omega) (by omega)]; exact e4) ?_
        exact Rn.at 1 rfl k
    obtain ⟨p1, x1', ih⟩ := ih (p + 1) (some (vI (bI (decide (so c p = 4) && !sp.testBit p)))) (by omega)
    by_cases hv : vto c nr o wf g sp p = true
    · have e1 : vS c nr o wf g sp (n + 1) p = (sp ||| 2 ^ p, false) := by
        unfold vS vtN
        rw [hv]
        rfl
      rw [e1]
      have hv2 := hv
      unfold vto at hv2
      simp only [Bool.and_eq_true, Bool.not_eq_true', decide_eq_true_eq] at hv2
      obtain ⟨⟨⟨v1, v2⟩, v3⟩, v4⟩ := hv2
      refine ⟨p + 1, some (vI (bI true)), fun r k => head r ?_⟩
      rw [decide_eq_true v1, v2]
      refine Rn.if1f 60 rfl rfl (by dsimp only [tm_c2P]; decide) ?_
      refine Rn.al 60 rfl rfl rfl rfl (by omega) ?_
      rw [hk.2.2.2.2 p hpl]
      refine Rn.if1f 60 rfl rfl (by dsimp only [tm_c2P]; rw [nJ_bit (by omega) (by omega), v4]; decide) ?_
      refine Rn.cv 60 rfl rfl rfl rfl rfl (m_isNear hc h hk hd hpl hg) (by decide) ?_
      rw [decide_eq_true v3]
      refine Rn.if1f 60 rfl rfl (by dsimp only [tm_c2P]; decide) ?_
      rw [nI_succ p, ← nJ_or, ← nJ_1shl (by omega)] at k
      refine Rn.cv 60 rfl rfl rfl rfl rfl (m_P h) (by decide) ?_
      refine Rn.if2 60 rfl rfl (fun _ => k) (fun _ => ?_)
      exact Rn.if2t 60 rfl rfl (by dsimp only [tm_c2P]; decide) k
    · have e1 : vS c nr o wf g sp (n + 1) p = vS c nr o wf g sp n (p + 1) := by
        unfold vS
        rw [show vtN c nr o wf g sp (n + 1) p = vtN c nr o wf g sp n (p + 1) by rw [vtN, Bool.eq_false_iff.mpr hv, cond_false]]
      rw [e1]
      refine ⟨p1, x1', fun r k => head r ?_⟩
      have k1 := ih r k
      rw [nI_succ p] at k1
      have fin : Rn none 5 jM_dawns (161, [some (vR (sg 13)), x1, some (vI (nI sp)), some (vI (nI g)), x4, some (vI (bI true)), some (vI (nI p)), some (vI (bI (decide (so c p = 4) && !sp.testBit p)))], [], w) r := Rn.at 2 rfl k1
      cases hb : decide (so c p = 4) && !sp.testBit p with
      | false =>
        rw [hb] at fin
        exact Rn.if1t 60 rfl rfl (by dsimp only [tm_c2P]; decide) fin
      | true =>
        rw [hb] at fin
        refine Rn.if1f 60 rfl rfl (by dsimp only [tm_c2P]; decide) ?_
        refine Rn.al 60 rfl rfl rfl rfl (by omega) ?_
        rw [hk.2.2.2.2 p hpl]
        cases hw : (wf p).testBit g with
        | true => exact Rn.if1t 60 rfl rfl (by dsimp only [tm_c2P]; rw [nJ_bit (by omega) (by omega), hw]; decide) fin
        | false =>
          refine Rn.if1f 60 rfl rfl (by dsimp only [tm_c2P]; rw [nJ_bit (by omega) (by omega), hw]; decide) ?_
          refine Rn.cv 60 rfl rfl rfl rfl rfl (m_isNear hc h hk hd hpl hg) (by decide) ?_
          have hn : decide (st c o p g ≤ nr) = false := by
            unfold vto at hv
            rw [hb, hw] at hv
            simpa using hv
          rw [hn]
          exact Rn.if1t 60 rfl rfl (by dsimp only [tm_c2P]; decide) fin
theorem m_tie {ti o g a b : Nat} (h : a = b) (ht : ti ≤ 2) : bI (ob ti o g a b) = if ti = 2 then bI (o.testBit g) else nI ti := by
  unfold ob
  rw [if_pos h]
  rcases (by omega : ti = 0 ∨ ti = 1 ∨ ti = 2) with rfl | rfl | rfl
  · rfl
  · rfl
  · simp
theorem daS_vS {c : Nat → Nat} {nr ti o g th sp : Nat} {wf : Nat → Nat} : daS c nr ti wf o g th sp = bif ob ti o g (su c nr o wf g true) (su c nr o wf g false) then (th ||| (bif (vS c nr o wf g sp (c 4) 0).2 then 2 ^ g else 0), (vS c nr o wf g sp (c 4) 0).1) else (th ||| 0, sp) := by
  unfold daS vS
  cases ob ti o g (su c nr o wf g true) (su c nr o wf g false)
  · simp
  · simp only [cond_true]
    cases vtN c nr o wf g sp (c 4) 0
    · rfl
    · simp
theorem m_dawns {w : Wd} {c : Nat → Nat} {nr ti o sp : Nat} {wf : Nat → Nat} (hc : PlOk c) (h : MPl w c) (hk : MWk w c nr ti o sp wf) (hd : DyOk c nr ti o sp wf) : ∃ w', Cl 6 jM_dawns [vR (sg 13)] w (none, w') ∧ MFr w w' ∧ MWk w' c nr ti (da c nr ti wf (o, sp)).1 (da c nr ti wf (o, sp)).2 wf := by
  have hc3 := hc.2.1
  have hc4 := hc.2.2.1
  have h8 := hd.2.2.1
  have ht2 := hd.2.1
  refine ⟨wset (wset w (sg 13) 18 (nI (da c nr ti wf (o, sp)).1)) (sg 13) 19 (nI (da c nr ti wf (o, sp)).2), ?_, (MFr.set (by decide)).tr (MFr.set (by decide)), ?_⟩
  · have key : ∀ n g th s x4 x5 x6 x7, g + n = c 3 → s < 32 → th < 256 → Rn none 5 jM_dawns (9, [some (vR (sg 13)), some (vI (nI th)), some (vI (nI s)), some (vI (nI g)), x4, x5, x6, x7], [], w) (none, wset (wset w (sg 13) 18 (nI (daN c nr ti wf o n g (th, s)).1)) (sg 13) 19 (nI (daN c nr ti wf o n g (th, s)).2)) := by
      intro n
      induction n with
      | zero =>
        intro g th s x4 x5 x6 x7 hg _ _
        obtain rfl : g = c 3 := by omega
        refine Rn.cv 60 rfl rfl rfl rfl rfl (m_G h) (by decide) ?_
        refine Rn.if2t 60 rfl rfl (nI_le (Nat.le_refl _) (by omega)) ?_
        exact Rn.vr 60 rfl rfl rfl rfl
      | succ n ih =>
        intro g th s x4 x5 x6 x7 hg hs hth
        have hgl : g < c 3 := by omega
        have s1 := su_le hc nr o wf g true
        have s2 := su_le hc nr o wf g false
        have hok := daS_ok hc (nr := nr) (ti := ti) (o := o) (wf := wf) hgl hth hs
        refine Rn.cv 60 rfl rfl rfl rfl rfl (m_G h) (by decide) ?_
        refine Rn.if2f 60 rfl rfl (nI_ge hgl (by omega)) ?_
        refine Rn.cv 60 rfl rfl rfl rfl rfl (m_sumOf true hc h hk hd hgl) (by decide) ?_
        refine Rn.cv 60 rfl rfl rfl rfl rfl (m_sumOf false hc h hk hd hgl) (by decide) ?_
        have hmore : (nI (su c nr o wf g true) - nI (su c nr o wf g false)).toInt = (su c nr o wf g true : Int) - su c nr o wf g false := pk_sub_toInt (by omega) (by omega)
        have z0 : (0 : Int32).toInt = 0 := by decide
        -- the rest of a gate, by what was voted
        have tail : ∀ x7, Rn none 5 jM_dawns (74, [some (vR (sg 13)), some (vI (nI th)), some (vI (nI s)), some (vI (nI g)), some (vI (nI (su c nr o wf g true) - nI (su c nr o wf g false))), x5, x6, x7], [vI (bI (ob ti o g (su c nr o wf g true) (su c nr o wf g false)))], w) (none, wset (wset w (sg 13) 18 (nI (daN c nr ti wf o (n + 1) g (th, s)).1)) (sg 13) 19 (nI (daN c nr ti wf o (n + 1) g (th, s)).2)) := by
          intro x7
          unfold daN
          rw [daS_vS] at hok ⊢
          cases hob : ob ti o g (su c nr o wf g true) (su c nr o wf g false) with
          | false =>
            rw [hob, cond_false] at hok
            have k := fun p x7 => ih (g + 1) (th ||| 0) s (some (vI (nI (su c nr o wf g true) - nI (su c nr o wf g false)))) (some (vI (bI false))) (some (vI (nI p))) x7 (by omega) hs hok.1
            have fin : Rn none 5 jM_dawns (167, [some (vR (sg 13)), some (vI (nI th)), some (vI (nI s)), some (vI (nI g)), some (vI (nI (su c nr o wf g true) - nI (su c nr o wf g false))), some (vI (bI false)), some (vI (nI 0)), x7], [], w) (none, wset (wset w (sg 13) 18 (nI (daN c nr ti wf o n (g + 1) (th ||| 0, s)).1)) (sg 13) 19 (nI (daN c nr ti wf o n (g + 1) (th ||| 0, s)).2)) := by
              have k1 := k 0 x7
              have e0 : nI (th ||| 0) = nI th ||| bI false <<< (nI g &&& 31) := by rw [bI_shl (show g < 31 by omega), nJ_or]; rfl
              rw [nI_succ g, e0] at k1
              exact Rn.at 8 rfl k1
            rw [cond_false]
            refine Rn.cv 60 rfl rfl rfl rfl rfl (m_P h) (by decide) ?_
            refine Rn.if2 60 rfl rfl (fun _ => fin) (fun _ => ?_)
            exact Rn.if2t 60 rfl rfl (by dsimp only [tm_c2P]; decide) fin
          | true =>
            rw [hob, cond_true] at hok
            rw [cond_true]
            obtain ⟨p', x7', k0⟩ := m_vet hc h hk hd hgl (x1 := some (vI (nI th))) (x4 := some (vI (nI (su c nr o wf g true) - nI (su c nr o wf g false)))) hs (c 4) 0 x7 (by omega)
            have k := ih (g + 1) (th ||| (bif (vS c nr o wf g s (c 4) 0).2 then 2 ^ g else 0)) (vS c nr o wf g s (c 4) 0).1 (some (vI (nI (su c nr o wf g true) - nI (su c nr o wf g false)))) (some (vI (bI (vS c nr o wf g s (c 4) 0).2))) (some (vI (nI p'))) x7' (by omega) hok.2 hok.1
            rw [nI_succ g, ← nJ_or, ← bI_shl (show g < 31 by omega)] at k
            refine Rn.at 3 rfl (k0 _ ?_)
            exact Rn.at 8 rfl k
        rcases Nat.lt_trichotomy (su c nr o wf g true) (su c nr o wf g false) with hl | he | hl
        · refine Rn.if1t 60 rfl rfl (by dsimp only [tm_c2P]; rw [Int32.le_iff_toInt_le, hmore, z0]; omega) ?_
          refine Rn.if1f 60 rfl rfl (by dsimp only [tm_c2P]; rw [Int32.le_iff_toInt_le, hmore, z0]; omega) ?_
          have e : ob ti o g (su c nr o wf g true) (su c nr o wf g false) = false := by
            unfold ob
            rw [if_neg (by omega), decide_eq_false (by omega)]
          have t := tail x7
          rw [e] at t
          exact Rn.at 2 rfl t
        · refine Rn.if1t 60 rfl rfl (by dsimp only [tm_c2P]; rw [Int32.le_iff_toInt_le, hmore, z0]; omega) ?_
          refine Rn.if1t 60 rfl rfl (by dsimp only [tm_c2P]; rw [Int32.le_iff_toInt_le, hmore, z0]; omega) ?_
          have t := tail x7
          rw [m_tie he ht2] at t
          by_cases e2 : ti = 2
          · rw [if_pos e2, ← nJ_bit (by omega) (show g < 32 by omega), ← hk.1] at t
            refine Rn.if2f 60 rfl rfl (by dsimp only [tm_c2P]; rw [hk.2.2.2.1, e2]; exact fun z => z rfl) ?_
            exact Rn.at 7 rfl t
          · rw [if_neg e2, ← hk.2.2.2.1] at t
            refine Rn.if2t 60 rfl rfl (by dsimp only [tm_c2P]; rw [hk.2.2.2.1, nI_eq (by omega) (by omega)]; exact e2) ?_
            exact Rn.at 2 rfl t
        · refine Rn.if1f 60 rfl rfl (by dsimp only [tm_c2P]; rw [Int32.le_iff_toInt_le, hmore, z0]; omega) ?_
          have e : ob ti o g (su c nr o wf g true) (su c nr o wf g false) = true := by
            unfold ob
            rw [if_neg (by omega), decide_eq_true hl]
          have t := tail x7
          rw [e] at t
          exact Rn.at 2 rfl t
    have k := key (c 3) 0 0 sp none none none none (by omega) hd.2.2.2.1 (by omega)
    refine Cl.of rfl rfl rfl (lc := [some (vR (sg 13)), none, none, none, none, none, none, none]) rfl ?_
    rw [← hk.2.1] at k
    exact Rn.at 7 rfl k
  · refine ⟨by rw [wset_k (by decide), wset_s], wset_s, by rw [wset_k (by decide), wset_k (by decide)]; exact hk.2.2.1, by rw [wset_k (by decide), wset_k (by decide)]; exact hk.2.2.2.1, fun p hp => ?_⟩
    rw [wset_ne (by decide), wset_ne (by decide)]
    exact hk.2.2.2.2 p hp
end
section
/-! what is asked of the town: person, gate, reach, steps, votes, kind, as, trace, count -/
theorem toInt_out {x : Int32} {n : Nat} (hn : n + 1 < 2 ^ 31) (h : x < 0 ∨ nI (n + 1) ≤ x) : x.toInt < 0 ∨ (n : Int) < x.toInt := by
  rcases h with h | h
  · left
    rw [Int32.lt_iff_toInt_lt] at h
    exact h
  · right
    rw [Int32.le_iff_toInt_le, nI_toInt hn] at h
    omega
theorem tsw_out {pc t : Nat} {d : Int} {offs : Array Int} {lc : Lc} {r : List AV} {w : Wd} {x : Int32} (n : Nat) {hi : Int} (hh : hi = n) (hn : n + 1 < 2 ^ 31) (h : x < 0 ∨ nI (n + 1) ≤ x) (ht : tm_jmp pc d = some t) : tm_tsw pc d 0 hi offs lc (.inl x :: r) w = some (.inr (t, lc, r, w)) := by
  subst hh
  unfold tm_tsw
  dsimp only
  rw [if_pos (toInt_out hn h), ht]
  rfl
theorem m_pno {w : Wd} {c : Nat → Nat} {x : Int32} (hc : PlOk c) (h : MPl w c) (hx : x < 0 ∨ nI (c 4) ≤ x) : Cl 2 jM_isPerson [vR (sg 13), vI x] w (some (vI (bI false)), w) := by
  have k := m_isPerson hc h (x := x)
  rw [in_no (by have := hc.2.2.1; omega) hx] at k
  exact k
theorem m_pyes {w : Wd} {c : Nat → Nat} {p : Nat} (hc : PlOk c) (h : MPl w c) (hp : p < c 4) : Cl 2 jM_isPerson [vR (sg 13), vI (nI p)] w (some (vI (bI true)), w) := by
  have k := m_isPerson hc h (x := nI p)
  rw [in_yes (by have := hc.2.2.1; omega) hp] at k
  exact k
theorem m_gno {w : Wd} {c : Nat → Nat} {x : Int32} (hc : PlOk c) (h : MPl w c) (hx : x < 0 ∨ nI (c 3) ≤ x) : Cl 2 jM_isGate [vR (sg 13), vI x] w (some (vI (bI false)), w) := by
  have k := m_isGate hc h (x := x)
  rw [in_no (by have := hc.2.1; omega) hx] at k
  exact k
theorem m_gyes {w : Wd} {c : Nat → Nat} {g : Nat} (hc : PlOk c) (h : MPl w c) (hg : g < c 3) : Cl 2 jM_isGate [vR (sg 13), vI (nI g)] w (some (vI (bI true)), w) := by
  have k := m_isGate hc h (x := nI g)
  rw [in_yes (by have := hc.2.1; omega) hg] at k
  exact k
theorem m_pers' {w : Wd} {p k : Nat} {x v : Int32} (hb : w (sg 13) 5 = nI 0) (hx : x = nI k) (hk : 24 + 5 * p + k < 196) (hv : w (sg 17) (24 + 5 * p + k) = v) : Cl 2 jM_personal [vR (sg 13), vI (nI p), vI x] w (some (vI v), w) := by
  subst hx
  exact m_pers hb hk hv
theorem op_person {x y : Int32} : Op jX_person jM_person [vI x, vI y] := by
  intro w hi
  obtain ⟨hb, c, nr, ti, o, sp, dy, wf, hok, hci, hma, hact⟩ := id hi.2.2.2.2.2
  have hpl := hma.pl hb
  have hc := hok.1
  have hc4 := hc.2.2.1
  have x4 : w (cit 0 0) 4 = nI (c 4) := hci.1.2.2.1
  rcases pk_or (x := x) (n := c 4) (by omega) with h1 | ⟨p, hp, rfl⟩
  · refine op_same hi (v := -(nI 1000001)) ?_ ?_
    · refine Cl.of rfl rfl rfl (lc := [some (vR (sg 0)), some (vI x), some (vI y)]) rfl ?_
      refine Rn.cs 60 rfl rfl rfl rfl (by rw [x4]; exact x_no (by omega) h1) (by decide) ?_
      refine Rn.if1f 60 rfl rfl (by dsimp only [tm_c2P]; decide) ?_
      exact Rn.ir 60 rfl rfl rfl rfl
    · refine Cl.of rfl rfl rfl (lc := [some (vR (sg 13)), some (vI x), some (vI y)]) rfl ?_
      refine Rn.cv 60 rfl rfl rfl rfl rfl (m_pno hc hpl h1) (by decide) ?_
      refine Rn.if1t 60 rfl rfl (by dsimp only [tm_c2P]; decide) ?_
      exact Rn.ir 60 rfl rfl rfl rfl
  have cx : ∀ {r0 : Rs}, Rn none 19 jX_person (17, [some (vR (sg 0)), some (vI (nI p)), some (vI y)], [], w) r0 → Cl 20 jX_person [vR (sg 0), vI (nI p), vI y] w r0 := by
    intro r0 k
    refine Cl.of rfl rfl rfl (lc := [some (vR (sg 0)), some (vI (nI p)), some (vI y)]) rfl ?_
    refine Rn.cs 60 rfl rfl rfl rfl (by rw [x4]; exact x_yes (by omega) hp) (by decide) ?_
    exact Rn.if1t 60 rfl rfl (by dsimp only [tm_c2P]; decide) k
  have cm : ∀ {r0 : Rs}, Rn none 19 jM_person (8, [some (vR (sg 13)), some (vI (nI p)), some (vI y)], [], w) r0 → Cl 20 jM_person [vR (sg 13), vI (nI p), vI y] w r0 := by
    intro r0 k
    refine Cl.of rfl rfl rfl (lc := [some (vR (sg 13)), some (vI (nI p)), some (vI y)]) rfl ?_
    refine Rn.cv 60 rfl rfl rfl rfl rfl (m_pyes hc hpl hp) (by decide) ?_
    exact Rn.if1f 60 rfl rfl (by dsimp only [tm_c2P]; decide) k
  rcases pk_or (x := y) (n := 5) (by decide) with h1 | ⟨k, hk, rfl⟩
  · refine op_same hi (v := -(nI 1000001)) (cx ?_) (cm ?_)
    · refine Rn.tsw 60 (t := 104) rfl rfl (tsw_out 4 rfl (by decide) h1 rfl) ?_
      exact Rn.ir 60 rfl rfl rfl rfl
    · refine Rn.cs 60 rfl rfl rfl rfl (m_no (n := 4) (by decide) h1) (by decide) ?_
      refine Rn.if1f 60 rfl rfl (by dsimp only [tm_c2P]; decide) ?_
      exact Rn.ir 60 rfl rfl rfl rfl
  have dm : ∀ {r0 : Rs}, Rn none 19 jM_person (20, [some (vR (sg 13)), some (vI (nI p)), some (vI (nI k))], [], w) r0 → Cl 20 jM_person [vR (sg 13), vI (nI p), vI (nI k)] w r0 := by
    intro r0 kk
    refine cm ?_
    refine Rn.cs 60 rfl rfl rfl rfl (m_yes (n := 4) (by decide) (by omega)) (by decide) ?_
    exact Rn.if1t 60 rfl rfl (by dsimp only [tm_c2P]; decide) kk
  obtain ⟨p1, p2, p3, p4⟩ := hci.1.2.2.2.2 p hp
  have p5 := hci.2.1.2.2.2.2.2 p hp
  have p6 := hci.2.1.2.2.2.1
  obtain ⟨m1, m2, m3, m4, m5, m6, m7, m8, m9, m10⟩ := hma
  obtain ⟨n1, n2, n3, n4, n5⟩ := m10 p hp
  simp only [Nat.zero_add] at n1 n2 n3 n4 n5 m8
  rcases (by omega : k = 0 ∨ k = 1 ∨ k = 2 ∨ k = 3 ∨ k = 4) with rfl | rfl | rfl | rfl | rfl
  · refine op_same hi (v := nI (ho c p)) (cx ?_) (dm ?_)
    · refine Rn.tsw 60 (t := 52) rfl rfl rfl ?_
      refine Rn.al 60 rfl rfl rfl rfl (by omega) ?_
      rw [p2]
      exact Rn.ir 60 rfl rfl rfl rfl
    · refine Rn.if2t 60 rfl rfl (by dsimp only [tm_c2P]; decide) ?_
      refine Rn.cv 60 rfl rfl rfl rfl rfl (m_pers' (p := p) (k := 1) (v := nI (ho c p)) hb rfl (by omega) (by rw [show 24 + 5 * p + 1 = 25 + 5 * p by omega]; exact n2)) (by decide) ?_
      exact Rn.ir 60 rfl rfl rfl rfl
  · refine op_same hi (v := nI (er c p)) (cx ?_) (dm ?_)
    · refine Rn.tsw 60 (t := 62) rfl rfl rfl ?_
      refine Rn.al 60 rfl rfl rfl rfl (by omega) ?_
      rw [p3]
      exact Rn.ir 60 rfl rfl rfl rfl
    · refine Rn.if2t 60 rfl rfl (by dsimp only [tm_c2P]; decide) ?_
      refine Rn.cv 60 rfl rfl rfl rfl rfl (m_pers' (p := p) (k := 2) (v := nI (er c p)) hb rfl (by omega) (by rw [show 24 + 5 * p + 2 = 26 + 5 * p by omega]; exact n3)) (by decide) ?_
      exact Rn.ir 60 rfl rfl rfl rfl
  · refine op_same hi (v := nI (wf p)) (cx ?_) (dm ?_)
    · refine Rn.tsw 60 (t := 72) rfl rfl rfl ?_
      refine Rn.al 60 rfl rfl rfl rfl (by omega) ?_
      rw [p5]
      exact Rn.ir 60 rfl rfl rfl rfl
    · refine Rn.if2t 60 rfl rfl (by dsimp only [tm_c2P]; decide) ?_
      refine Rn.cv 60 rfl rfl rfl rfl rfl (m_pers' (p := p) (k := 3) (v := nI (wf p)) hb rfl (by omega) (by rw [show 24 + 5 * p + 3 = 27 + 5 * p by omega]; exact n4)) (by decide) ?_
      exact Rn.ir 60 rfl rfl rfl rfl
  · refine op_same hi (v := nI (we c p)) (cx ?_) (dm ?_)
    · refine Rn.tsw 60 (t := 82) rfl rfl rfl ?_
      refine Rn.al 60 rfl rfl rfl rfl (by omega) ?_
      rw [p4]
      exact Rn.ir 60 rfl rfl rfl rfl
    · refine Rn.if2t 60 rfl rfl (by dsimp only [tm_c2P]; decide) ?_
      refine Rn.cv 60 rfl rfl rfl rfl rfl (m_pers' (p := p) (k := 4) (v := nI (we c p)) hb rfl (by omega) (by rw [show 24 + 5 * p + 4 = 28 + 5 * p by omega]; exact n5)) (by decide) ?_
      exact Rn.ir 60 rfl rfl rfl rfl
  · refine op_same hi (v := nI sp >>> (nI p &&& 31) &&& nI 1) (cx ?_) (dm ?_)
    · refine Rn.tsw 60 (t := 92) rfl rfl rfl ?_
      rw [← p6]
      exact Rn.ir 60 rfl rfl rfl rfl
    · refine Rn.if2f 60 rfl rfl (by dsimp only [tm_c2P]; decide) ?_
      refine Rn.cv 60 rfl rfl rfl rfl rfl (m_get (k := 7) (v := nI sp) hb rfl (by decide) m8) (by decide) ?_
      exact Rn.ir 60 rfl rfl rfl rfl
theorem op_gate {x y : Int32} : Op jX_gate jM_gate [vI x, vI y] := by
  intro w hi
  obtain ⟨hb, c, nr, ti, o, sp, dy, wf, hok, hci, hma, hact⟩ := id hi.2.2.2.2.2
  have hpl := hma.pl hb
  have hc := hok.1
  have hc3 := hc.2.1
  have x3 : w (cit 0 0) 3 = nI (c 3) := hci.1.2.1
  rcases pk_or (x := x) (n := c 3) (by omega) with h1 | ⟨g, hg, rfl⟩
  · refine op_same hi (v := -(nI 1000001)) ?_ ?_
    · refine Cl.of rfl rfl rfl (lc := [some (vR (sg 0)), some (vI x), some (vI y)]) rfl ?_
      refine Rn.cs 60 rfl rfl rfl rfl (by rw [x3]; exact x_no (by omega) h1) (by decide) ?_
      refine Rn.if1f 60 rfl rfl (by dsimp only [tm_c2P]; decide) ?_
      exact Rn.ir 60 rfl rfl rfl rfl
    · refine Cl.of rfl rfl rfl (lc := [some (vR (sg 13)), some (vI x), some (vI y)]) rfl ?_
      refine Rn.cv 60 rfl rfl rfl rfl rfl (m_gno hc hpl h1) (by decide) ?_
      refine Rn.if1t 60 rfl rfl (by dsimp only [tm_c2P]; decide) ?_
      exact Rn.ir 60 rfl rfl rfl rfl
  have cx : ∀ {r0 : Rs}, Rn none 19 jX_gate (17, [some (vR (sg 0)), some (vI (nI g)), some (vI y)], [], w) r0 → Cl 20 jX_gate [vR (sg 0), vI (nI g), vI y] w r0 := by
    intro r0 k
    refine Cl.of rfl rfl rfl (lc := [some (vR (sg 0)), some (vI (nI g)), some (vI y)]) rfl ?_
    refine Rn.cs 60 rfl rfl rfl rfl (by rw [x3]; exact x_yes (by omega) hg) (by decide) ?_
    exact Rn.if1t 60 rfl rfl (by dsimp only [tm_c2P]; decide) k
  have cm : ∀ {r0 : Rs}, Rn none 19 jM_gate (8, [some (vR (sg 13)), some (vI (nI g)), some (vI y)], [], w) r0 → Cl 20 jM_gate [vR (sg 13), vI (nI g), vI y] w r0 := by
    intro r0 k
    refine Cl.of rfl rfl rfl (lc := [some (vR (sg 13)), some (vI (nI g)), some (vI y)]) rfl ?_
    refine Rn.cv 60 rfl rfl rfl rfl rfl (m_gyes hc hpl hg) (by decide) ?_
    exact Rn.if1f 60 rfl rfl (by dsimp only [tm_c2P]; decide) k
  rcases pk_or (x := y) (n := 3) (by decide) with h1 | ⟨k, hk, rfl⟩
  · refine op_same hi (v := -(nI 1000001)) (cx ?_) (cm ?_)
    · refine Rn.tsw 60 (t := 76) rfl rfl (tsw_out 2 rfl (by decide) h1 rfl) ?_
      exact Rn.ir 60 rfl rfl rfl rfl
    · refine Rn.cs 60 rfl rfl rfl rfl (m_no (n := 2) (by decide) h1) (by decide) ?_
      refine Rn.if1f 60 rfl rfl (by dsimp only [tm_c2P]; decide) ?_
      exact Rn.ir 60 rfl rfl rfl rfl
  have dm : ∀ {r0 : Rs}, Rn none 19 jM_gate (20, [some (vR (sg 13)), some (vI (nI g)), some (vI (nI k))], [], w) r0 → Cl 20 jM_gate [vR (sg 13), vI (nI g), vI (nI k)] w r0 := by
    intro r0 kk
    refine cm ?_
    refine Rn.cs 60 rfl rfl rfl rfl (m_yes (n := 2) (by decide) (by omega)) (by decide) ?_
    exact Rn.if1t 60 rfl rfl (by dsimp only [tm_c2P]; decide) kk
  obtain ⟨p1, p2⟩ := hci.1.2.2.2.1 g hg
  have p6 := hci.2.1.2.2.1
  obtain ⟨m1, m2, m3, m4, m5, m6, m7, m8, m9, m10⟩ := hma
  obtain ⟨n1, n2⟩ := m9 g hg
  simp only [Nat.zero_add] at n1 n2 m7
  rcases (by omega : k = 0 ∨ k = 1 ∨ k = 2) with rfl | rfl | rfl
  · refine op_same hi (v := nI (c (8 + 2 * g))) (cx ?_) (dm ?_)
    · refine Rn.tsw 60 (t := 44) rfl rfl rfl ?_
      refine Rn.al 60 rfl rfl rfl rfl (by omega) ?_
      rw [p1]
      exact Rn.ir 60 rfl rfl rfl rfl
    · refine Rn.if2t 60 rfl rfl (by dsimp only [tm_c2P]; decide) ?_
      refine Rn.cv 60 rfl rfl rfl rfl rfl (m_get (k := 8 + 2 * g) (v := nI (c (8 + 2 * g))) hb (by dsimp only; rw [pk_mul, nI_add, nI_add]; rfl) (by omega) n1) (by decide) ?_
      exact Rn.ir 60 rfl rfl rfl rfl
  · refine op_same hi (v := nI (c (9 + 2 * g))) (cx ?_) (dm ?_)
    · refine Rn.tsw 60 (t := 54) rfl rfl rfl ?_
      refine Rn.al 60 rfl rfl rfl rfl (by omega) ?_
      rw [p2]
      exact Rn.ir 60 rfl rfl rfl rfl
    · refine Rn.if2t 60 rfl rfl (by dsimp only [tm_c2P]; decide) ?_
      refine Rn.cv 60 rfl rfl rfl rfl rfl (m_get (k := 9 + 2 * g) (v := nI (c (9 + 2 * g))) hb (by dsimp only; rw [pk_mul, nI_add, nI_add, show 8 + 2 * g + 1 = 9 + 2 * g by omega]) (by omega) n2) (by decide) ?_
      exact Rn.ir 60 rfl rfl rfl rfl
  · refine op_same hi (v := nI o >>> (nI g &&& 31) &&& nI 1) (cx ?_) (dm ?_)
    · refine Rn.tsw 60 (t := 64) rfl rfl rfl ?_
      rw [← p6]
      exact Rn.ir 60 rfl rfl rfl rfl
    · refine Rn.if2f 60 rfl rfl (by dsimp only [tm_c2P]; decide) ?_
      refine Rn.cv 60 rfl rfl rfl rfl rfl (m_get (k := 6) (v := nI o) hb rfl (by decide) m7) (by decide) ?_
      exact Rn.ir 60 rfl rfl rfl rfl
theorem op_reach {x : Int32} : Op jX_reach jM_reach [vI x] := by
  intro w hi
  obtain ⟨hb, c, nr, ti, o, sp, dy, wf, hok, hci, hma, hact⟩ := id hi.2.2.2.2.2
  have hpl := hma.pl hb
  have hc := hok.1
  have hc0 := hc.1
  have x0 : w (cit 0 0) 0 = nI (c 0) := hci.1.1
  rcases pk_or (x := x) (n := c 0) (by omega) with h1 | ⟨q, hq, rfl⟩
  · refine op_same hi (v := -(nI 1000001)) ?_ ?_
    · refine Cl.of rfl rfl rfl (lc := [some (vR (sg 0)), some (vI x)]) rfl ?_
      refine Rn.cs 60 rfl rfl rfl rfl (by rw [x0]; exact x_no (by omega) h1) (by decide) ?_
      refine Rn.if1t 60 rfl rfl (by dsimp only [tm_c2P]; decide) ?_
      exact Rn.ir 60 rfl rfl rfl rfl
    · refine Cl.of rfl rfl rfl (lc := [some (vR (sg 13)), some (vI x)]) rfl ?_
      have k := m_in (w := w) (x := x) (y := nI 0) (z := nI (c 0) - nI 1)
      rw [in_no (by omega) h1] at k
      refine Rn.cv 60 rfl rfl rfl rfl rfl (m_Q hpl) (by decide) ?_
      refine Rn.cs 60 rfl rfl rfl rfl k (by decide) ?_
      refine Rn.if1t 60 rfl rfl (by dsimp only [tm_c2P]; decide) ?_
      exact Rn.ir 60 rfl rfl rfl rfl
  · refine op_same hi (v := nI (rc c o q)) ?_ ?_
    · refine Cl.of rfl rfl rfl (lc := [some (vR (sg 0)), some (vI (nI q))]) rfl ?_
      refine Rn.cs 60 rfl rfl rfl rfl (by rw [x0]; exact x_yes (by omega) hq) (by decide) ?_
      refine Rn.if1f 60 rfl rfl (by dsimp only [tm_c2P]; decide) ?_
      refine Rn.cv 60 rfl rfl rfl rfl rfl (sp_reachedFrom hc hci.1 hci.2.1.2.2.1 hok.2.1.2.2.1 hq) (by decide) ?_
      exact Rn.ir 60 rfl rfl rfl rfl
    · refine Cl.of rfl rfl rfl (lc := [some (vR (sg 13)), some (vI (nI q))]) rfl ?_
      have k := m_in (w := w) (x := nI q) (y := nI 0) (z := nI (c 0) - nI 1)
      rw [in_yes (by omega) hq] at k
      refine Rn.cv 60 rfl rfl rfl rfl rfl (m_Q hpl) (by decide) ?_
      refine Rn.cs 60 rfl rfl rfl rfl k (by decide) ?_
      refine Rn.if1f 60 rfl rfl (by dsimp only [tm_c2P]; decide) ?_
      refine Rn.cv 60 rfl rfl rfl rfl rfl (m_get (k := 6) (v := nI o) hb rfl (by decide) hma.2.2.2.2.2.2.1) (by decide) ?_
      refine Rn.cv 60 rfl rfl rfl rfl rfl (m_reachBy hc hpl hok.2.1.2.2.1 hq) (by decide) ?_
      exact Rn.ir 60 rfl rfl rfl rfl
theorem op_kind {x : Int32} : Op jX_kind jM_kind [vI x] := by
  intro w hi
  obtain ⟨hb, c, nr, ti, o, sp, dy, wf, hok, hci, hma, hact⟩ := id hi.2.2.2.2.2
  have hpl := hma.pl hb
  have hc := hok.1
  have hc4 := hc.2.2.1
  have x4 : w (cit 0 0) 4 = nI (c 4) := hci.1.2.2.1
  rcases pk_or (x := x) (n := c 4) (by omega) with h1 | ⟨p, hp, rfl⟩
  · refine op_same hi (v := -(nI 1000001)) ?_ ?_
    · refine Cl.of rfl rfl rfl (lc := [some (vR (sg 0)), some (vI x)]) rfl ?_
      refine Rn.cs 60 rfl rfl rfl rfl (by rw [x4]; exact x_no (by omega) h1) (by decide) ?_
      refine Rn.if1t 60 rfl rfl (by dsimp only [tm_c2P]; decide) ?_
      exact Rn.ir 60 rfl rfl rfl rfl
    · refine Cl.of rfl rfl rfl (lc := [some (vR (sg 13)), some (vI x)]) rfl ?_
      refine Rn.cv 60 rfl rfl rfl rfl rfl (m_pno hc hpl h1) (by decide) ?_
      refine Rn.if1t 60 rfl rfl (by dsimp only [tm_c2P]; decide) ?_
      exact Rn.ir 60 rfl rfl rfl rfl
  · refine op_same hi (v := nI (so c p)) ?_ ?_
    · refine Cl.of rfl rfl rfl (lc := [some (vR (sg 0)), some (vI (nI p))]) rfl ?_
      refine Rn.cs 60 rfl rfl rfl rfl (by rw [x4]; exact x_yes (by omega) hp) (by decide) ?_
      refine Rn.if1f 60 rfl rfl (by dsimp only [tm_c2P]; decide) ?_
      refine Rn.al 60 rfl rfl rfl rfl (by omega) ?_
      rw [(hci.1.2.2.2.2 p hp).1]
      exact Rn.ir 60 rfl rfl rfl rfl
    · refine Cl.of rfl rfl rfl (lc := [some (vR (sg 13)), some (vI (nI p))]) rfl ?_
      refine Rn.cv 60 rfl rfl rfl rfl rfl (m_pyes hc hpl hp) (by decide) ?_
      refine Rn.if1f 60 rfl rfl (by dsimp only [tm_c2P]; decide) ?_
      refine Rn.cv 60 rfl rfl rfl rfl rfl (m_so hc hpl hp) (by decide) ?_
      exact Rn.ir 60 rfl rfl rfl rfl
theorem op_trace {x : Int32} : Op jX_trace jM_trace [vI x] := by
  intro w hi
  obtain ⟨n, hn, h1, h2, h3⟩ := id hi.2.2.2.1
  rcases pk_or (x := x) (n := n) (by omega) with h | ⟨i, hin, rfl⟩
  · refine op_same hi (v := -(nI 1000000)) ?_ ?_
    · refine Cl.of rfl rfl rfl (lc := [some (vR (sg 0)), some (vI x)]) rfl ?_
      refine Rn.cs 60 rfl rfl rfl rfl (by rw [h1]; exact x_no (by omega) h) (by decide) ?_
      refine Rn.if1t 60 rfl rfl (by dsimp only [tm_c2P]; decide) ?_
      exact Rn.ir 60 rfl rfl rfl rfl
    · refine Cl.of rfl rfl rfl (lc := [some (vR (sg 13)), some (vI x)]) rfl ?_
      have k := m_in (w := w) (x := x) (y := nI 0) (z := nI n - nI 1)
      rw [in_no (by omega) h, ← h2] at k
      refine Rn.cs 60 rfl rfl rfl rfl k (by decide) ?_
      refine Rn.if1t 60 rfl rfl (by dsimp only [tm_c2P]; decide) ?_
      exact Rn.ir 60 rfl rfl rfl rfl
  · refine op_same hi (v := w (sg 12) i) ?_ ?_
    · refine Cl.of rfl rfl rfl (lc := [some (vR (sg 0)), some (vI (nI i))]) rfl ?_
      refine Rn.cs 60 rfl rfl rfl rfl (by rw [h1]; exact x_yes (by omega) hin) (by decide) ?_
      refine Rn.if1f 60 rfl rfl (by dsimp only [tm_c2P]; decide) ?_
      refine Rn.al 60 rfl rfl rfl rfl (by omega) ?_
      exact Rn.ir 60 rfl rfl rfl rfl
    · refine Cl.of rfl rfl rfl (lc := [some (vR (sg 13)), some (vI (nI i))]) rfl ?_
      have k := m_in (w := w) (x := nI i) (y := nI 0) (z := nI n - nI 1)
      rw [in_yes (by omega) hin, ← h2] at k
      refine Rn.cs 60 rfl rfl rfl rfl k (by decide) ?_
      refine Rn.if1f 60 rfl rfl (by dsimp only [tm_c2P]; decide) ?_
      refine Rn.al 60 rfl rfl rfl rfl (by omega) ?_
      rw [h3 i hin]
      exact Rn.ir 60 rfl rfl rfl rfl
end
section
/-! steps, votes, as, count -/
theorem Inv.twn {w w' : Wd} (h : Inv w) (ht : TwnI w') (e : ∀ n, n ≠ 5 → n ≠ 9 → Same n w w') : Inv w' := ⟨h.1.same (e 0 (by decide) (by decide)), h.2.1.same (e 1 (by decide) (by decide)), h.2.2.1.same (e 2 (by decide) (by decide)), h.2.2.2.1.same (e 3 (by decide) (by decide)), h.2.2.2.2.1.same (e 4 (by decide) (by decide)), ht⟩
theorem MaIs.fr {w w' : Wd} {b : Nat} {c : Nat → Nat} {nr ti o sp dy : Nat} {wf : Nat → Nat} (h : MaIs w b c nr ti o sp dy wf) (e : w' (sg 17) = w (sg 17)) : MaIs w' b c nr ti o sp dy wf := by
  unfold MaIs
  rw [e]
  exact h
theorem ActI.fr0 {w w' : Wd} {c : Nat → Nat} {nr ti : Nat} {wf : Nat → Nat} (h : ActI w c nr ti wf) (f : Fr 0 w w') : ActI w' c nr ti wf := h.of (fun s _ _ j => by rw [f _ (fun p => sg_cit)]) (by rw [f _ (fun p => sg_cit)]) (fun j => by rw [f _ (fun p => sg_cit)])
theorem Inv.fr0 {w w' : Wd} {c : Nat → Nat} {nr ti o sp dy : Nat} {wf : Nat → Nat} (hi : Inv w) (hb : w (sg 13) 5 = nI 0) (hok : CtOk c nr ti o sp dy wf) (hma : MaIs w 0 c nr ti o sp dy wf) (hact : ActI w c nr ti wf) (f : Fr 0 w w') (hci : CiIs w' 0 c nr ti o sp dy wf) : Inv w' :=
  hi.twn ⟨by rw [f _ (fun p => sg_cit)]; exact hb, c, nr, ti, o, sp, dy, wf, hok, hci, hma.fr (f _ (fun p => sg_cit)), hact.fr0 f⟩ (fun n h5 h9 => Same.fr f (fun p j z => h5 z.symm))
theorem x_measure {w : Wd} {c : Nat → Nat} {nr ti o sp dy : Nat} {wf : Nat → Nat} (hok : CtOk c nr ti o sp dy wf) (hci : CiIs w 0 c nr ti o sp dy wf) : ∃ w', Cl 3 jC_measure [vR (cit 0 0)] w (none, w') ∧ Fr 0 w w' ∧ CiIs w' 0 c nr ti o sp dy wf ∧ Tab w' 0 c o := by
  obtain ⟨w', h1, h2, h3, h4, h5⟩ := sp_measure hok.1 hci.1 hci.2.1.2.2.1 hok.2.1.2.2.1 hci.2.2
  refine ⟨w', h1, fun t ht => h2 t (ht 0) (ht 8), ⟨hci.1.of (h3 0 (by decide)) (h3 3 (by decide)) (h3 4 (by decide)) (fun p p1 p2 => h2 _ (cit_p (by omega)) (cit_p (by omega))), hci.2.1.of h3 (h2 _ (cit_p (by decide)) (cit_p (by decide))), Or.inr ⟨o, hok.2.1.2.2.1, h4, h5⟩⟩, h5⟩
theorem op_steps {x y : Int32} : Op jX_steps jM_steps [vI x, vI y] := by
  intro w hi
  obtain ⟨hb, c, nr, ti, o, sp, dy, wf, hok, hci, hma, hact⟩ := id hi.2.2.2.2.2
  have hpl := hma.pl hb
  have hc := hok.1
  have hc3 := hc.2.1
  have hc4 := hc.2.2.1
  have x4 : w (cit 0 0) 4 = nI (c 4) := hci.1.2.2.1
  have x3 : w (cit 0 0) 3 = nI (c 3) := hci.1.2.1
  rcases pk_or (x := x) (n := c 4) (by omega) with h1 | ⟨p, hp, rfl⟩
  · refine op_same hi (v := -(nI 1000001)) ?_ ?_
    · refine Cl.of rfl rfl rfl (lc := [some (vR (sg 0)), some (vI x), some (vI y), none]) rfl ?_
      refine Rn.cs 60 rfl rfl rfl rfl (by rw [x4]; exact x_no (by omega) h1) (by decide) ?_
      refine Rn.if1t 60 rfl rfl (by dsimp only [tm_c2P]; decide) ?_
      exact Rn.ir 60 rfl rfl rfl rfl
    · refine Cl.of rfl rfl rfl (lc := [some (vR (sg 13)), some (vI x), some (vI y)]) rfl ?_
      refine Rn.cv 60 rfl rfl rfl rfl rfl (m_pno hc hpl h1) (by decide) ?_
      refine Rn.if1t 60 rfl rfl (by dsimp only [tm_c2P]; decide) ?_
      exact Rn.ir 60 rfl rfl rfl rfl
  have cx : ∀ {r0 : Rs}, Rn none 19 jX_steps (14, [some (vR (sg 0)), some (vI (nI p)), some (vI y), none], [], w) r0 → Cl 20 jX_steps [vR (sg 0), vI (nI p), vI y] w r0 := by
    intro r0 k
    refine Cl.of rfl rfl rfl (lc := [some (vR (sg 0)), some (vI (nI p)), some (vI y), none]) rfl ?_
    refine Rn.cs 60 rfl rfl rfl rfl (by rw [x4]; exact x_yes (by omega) hp) (by decide) ?_
    exact Rn.if1f 60 rfl rfl (by dsimp only [tm_c2P]; decide) k
  have cm : ∀ {w : Wd} {r0 : Rs}, MPl w c → Rn none 19 jM_steps (8, [some (vR (sg 13)), some (vI (nI p)), some (vI y)], [], w) r0 → Cl 20 jM_steps [vR (sg 13), vI (nI p), vI y] w r0 := by
    intro w r0 hpl k
    refine Cl.of rfl rfl rfl (lc := [some (vR (sg 13)), some (vI (nI p)), some (vI y)]) rfl ?_
    refine Rn.cv 60 rfl rfl rfl rfl rfl (m_pyes hc hpl hp) (by decide) ?_
    exact Rn.if1f 60 rfl rfl (by dsimp only [tm_c2P]; decide) k
  rcases pk_or (x := y) (n := c 3) (by omega) with h1 | ⟨g, hg, rfl⟩
  · refine op_same hi (v := -(nI 1000001)) (cx ?_) (cm hpl ?_)
    · refine Rn.cs 60 rfl rfl rfl rfl (by rw [x3]; exact x_no (by omega) h1) (by decide) ?_
      refine Rn.if1f 60 rfl rfl (by dsimp only [tm_c2P]; decide) ?_
      exact Rn.ir 60 rfl rfl rfl rfl
    · refine Rn.cv 60 rfl rfl rfl rfl rfl (m_gno hc hpl h1) (by decide) ?_
      refine Rn.if1t 60 rfl rfl (by dsimp only [tm_c2P]; decide) ?_
      exact Rn.ir 60 rfl rfl rfl rfl
  obtain ⟨w1, f1, f2, f3, f4⟩ := x_measure hok hci
  have hi1 := hi.fr0 hb hok hma hact f2 f3
  have e13 : w1 (sg 13) = w (sg 13) := f2 _ (fun p => sg_cit)
  have e17 : w1 (sg 17) = w (sg 17) := f2 _ (fun p => sg_cit)
  have hb1 : w1 (sg 13) 5 = nI 0 := by rw [e13]; exact hb
  have hma1 := hma.fr e17
  have hpl1 := hma1.pl hb1
  have h100 : st c o p g ≤ 100 := stT_100 6
  refine ⟨w1, w1, sI (st c o p g), cx ?_, cm hpl1 ?_, hi1⟩
  · refine Rn.cs 60 rfl rfl rfl rfl (by rw [x3]; exact x_yes (by omega) hg) (by decide) ?_
    refine Rn.if1t 60 rfl rfl (by dsimp only [tm_c2P]; decide) ?_
    refine Rn.cv 60 rfl rfl rfl rfl rfl f1 (by decide) ?_
    refine Rn.cv 60 rfl rfl rfl rfl rfl (sp_stepsOf hc f4 hp hg) (by decide) ?_
    unfold sI
    by_cases e : st c o p g = 100
    · rw [if_pos e, e]
      refine Rn.if2f 60 rfl rfl (by dsimp only [tm_c2P]; decide) ?_
      exact Rn.ir 60 rfl rfl rfl rfl
    · rw [if_neg e]
      refine Rn.if2t 60 rfl rfl (by dsimp only [tm_c2P]; rw [nI_eq (by omega) (by decide)]; exact e) ?_
      exact Rn.ir 60 rfl rfl rfl rfl
  · refine Rn.cv 60 rfl rfl rfl rfl rfl (m_gyes hc hpl1 hg) (by decide) ?_
    refine Rn.if1f 60 rfl rfl (by dsimp only [tm_c2P]; decide) ?_
    refine Rn.cv 60 rfl rfl rfl rfl rfl (m_ho hc hpl1 hp) (by decide) ?_
    refine Rn.cv 60 rfl rfl rfl rfl rfl (m_get (k := 6) (v := nI o) hb1 rfl (by decide) hma1.2.2.2.2.2.2.1) (by decide) ?_
    refine Rn.cv 60 rfl rfl rfl rfl rfl (m_stepsBy hc hpl1 hok.2.1.2.2.1 (hc.2.2.2.2 p hp).2.1 hg) (by decide) ?_
    exact Rn.ir 60 rfl rfl rfl rfl
theorem Inv.mfr {w w' : Wd} (hi : Inv w) (f : MFr w w') : Inv w' := hi.same (fun n hn => f.same (by omega))
theorem op_votes {x y : Int32} : Op jX_votes jM_votes [vI x, vI y] := by
  intro w hi
  obtain ⟨hb, c, nr, ti, o, sp, dy, wf, hok, hci, hma, hact⟩ := id hi.2.2.2.2.2
  have hpl := hma.pl hb
  have hc := hok.1
  have hc3 := hc.2.1
  have x3 : w (cit 0 0) 3 = nI (c 3) := hci.1.2.1
  rcases pk_or (x := x) (n := c 3) (by omega) with h1 | ⟨g, hg, rfl⟩
  · refine op_same hi (v := -(nI 1000001)) ?_ ?_
    · refine Cl.of rfl rfl rfl (lc := [some (vR (sg 0)), some (vI x), some (vI y)]) rfl ?_
      refine Rn.cs 60 rfl rfl rfl rfl (by rw [x3]; exact x_no (by omega) h1) (by decide) ?_
      refine Rn.if1t 60 rfl rfl (by dsimp only [tm_c2P]; decide) ?_
      exact Rn.ir 60 rfl rfl rfl rfl
    · refine Cl.of rfl rfl rfl (lc := [some (vR (sg 13)), some (vI x), some (vI y)]) rfl ?_
      refine Rn.cv 60 rfl rfl rfl rfl rfl (m_gno hc hpl h1) (by decide) ?_
      refine Rn.if1t 60 rfl rfl (by dsimp only [tm_c2P]; decide) ?_
      exact Rn.ir 60 rfl rfl rfl rfl
  have cx : ∀ {r0 : Rs}, Rn none 19 jX_votes (14, [some (vR (sg 0)), some (vI (nI g)), some (vI y)], [], w) r0 → Cl 20 jX_votes [vR (sg 0), vI (nI g), vI y] w r0 := by
    intro r0 k
    refine Cl.of rfl rfl rfl (lc := [some (vR (sg 0)), some (vI (nI g)), some (vI y)]) rfl ?_
    refine Rn.cs 60 rfl rfl rfl rfl (by rw [x3]; exact x_yes (by omega) hg) (by decide) ?_
    exact Rn.if1f 60 rfl rfl (by dsimp only [tm_c2P]; decide) k
  have cm : ∀ {w : Wd} {r0 : Rs}, MPl w c → Rn none 19 jM_votes (8, [some (vR (sg 13)), some (vI (nI g)), some (vI y)], [], w) r0 → Cl 20 jM_votes [vR (sg 13), vI (nI g), vI y] w r0 := by
    intro w r0 hpl k
    refine Cl.of rfl rfl rfl (lc := [some (vR (sg 13)), some (vI (nI g)), some (vI y)]) rfl ?_
    refine Rn.cv 60 rfl rfl rfl rfl rfl (m_gyes hc hpl hg) (by decide) ?_
    exact Rn.if1f 60 rfl rfl (by dsimp only [tm_c2P]; decide) k
  rcases pk_or (x := y) (n := 2) (by omega) with h1 | ⟨k, hk, rfl⟩
  · refine op_same hi (v := -(nI 1000001)) (cx ?_) (cm hpl ?_)
    · refine Rn.if1 60 rfl rfl (fun _ => Rn.ir 60 rfl rfl rfl rfl) (fun h2 => ?_)
      refine Rn.if2f 60 rfl rfl (Int32.not_le.mpr (nI_lt1 (n := 1) (by decide) (h1.resolve_left h2))) ?_
      exact Rn.ir 60 rfl rfl rfl rfl
    · refine Rn.cs 60 rfl rfl rfl rfl (m_no (n := 1) (by decide) h1) (by decide) ?_
      refine Rn.if1f 60 rfl rfl (by dsimp only [tm_c2P]; decide) ?_
      exact Rn.ir 60 rfl rfl rfl rfl
  obtain ⟨w1, f1, f2, f3, f4⟩ := x_measure hok hci
  have hi1 := hi.fr0 hb hok hma hact f2 f3
  have e13 : w1 (sg 13) = w (sg 13) := f2 _ (fun p => sg_cit)
  have e17 : w1 (sg 17) = w (sg 17) := f2 _ (fun p => sg_cit)
  have hb1 : w1 (sg 13) 5 = nI 0 := by rw [e13]; exact hb
  have hma1 := hma.fr e17
  have hpl1 := hma1.pl hb1
  obtain ⟨w2, b1, b2, b3⟩ := m_begin hc hb1 hma1
  have hpl2 := hpl1.mfr b2
  have e : ∀ k, k < 2 → ∃ b, (if k = 0 then true else false) = b ∧ Rn none 19 jX_votes (23 + 24, [some (vR (sg 0)), some (vI (nI g)), some (vI (nI k))], [vI (bI b), vI (nI g), vR (cit 0 0)], w1) (some (vI (nI (su c nr o wf g b))), w1) ∧ Rn none 19 jM_votes (35, [some (vR (sg 13)), some (vI (nI g)), some (vI (nI k))], [vI (bI b), vI (nI g), vR (sg 13)], w2) (some (vI (nI (su c nr o wf g b))), w2) := by
    intro k hk
    refine ⟨_, rfl, ?_, ?_⟩
    · refine Rn.cv 60 rfl rfl rfl rfl rfl (sp_sumOf _ hc f3.1 f3.2.1 hok.2.1 f4 hg) (by decide) ?_
      exact Rn.ir 60 rfl rfl rfl rfl
    · refine Rn.cv 60 rfl rfl rfl rfl rfl (m_sumOf _ hc hpl2 b3 hok.2.1 hg) (by decide) ?_
      exact Rn.ir 60 rfl rfl rfl rfl
  obtain ⟨b, eb, r1, r2⟩ := e k hk
  refine ⟨w1, w2, nI (su c nr o wf g b), cx ?_, cm hpl1 ?_, hi1.mfr b2⟩
  · refine Rn.if1f 60 rfl rfl (nI_pos (by omega)) ?_
    refine Rn.if2t 60 rfl rfl (nI_le (by omega) (by decide)) ?_
    refine Rn.cv 60 rfl rfl rfl rfl rfl f1 (by decide) ?_
    rcases (by omega : k = 0 ∨ k = 1) with rfl | rfl
    · subst eb
      refine Rn.if1f 60 rfl rfl (by dsimp only [tm_c2P]; decide) ?_
      exact Rn.at 2 rfl r1
    · subst eb
      refine Rn.if1t 60 rfl rfl (by dsimp only [tm_c2P]; decide) ?_
      exact Rn.at 1 rfl r1
  · refine Rn.cs 60 rfl rfl rfl rfl (m_yes (n := 1) (by decide) (by omega)) (by decide) ?_
    refine Rn.if1t 60 rfl rfl (by dsimp only [tm_c2P]; decide) ?_
    refine Rn.cv 60 rfl rfl rfl rfl rfl b1 (by decide) ?_
    rcases (by omega : k = 0 ∨ k = 1) with rfl | rfl
    · subst eb
      refine Rn.if1f 60 rfl rfl (by dsimp only [tm_c2P]; decide) ?_
      exact Rn.at 2 rfl r2
    · subst eb
      refine Rn.if1t 60 rfl rfl (by dsimp only [tm_c2P]; decide) ?_
      exact Rn.at 1 rfl r2
def kdN (s k : Nat) : Bool := if k = 0 then true else if k = 1 then decide (s = 1) || decide (s = 2) || decide (s = 3) else if k = 4 then decide (s = 4) || decide (s = 5) else decide (s = k)
theorem x_isOfKind {w : Wd} {s k : Nat} (hs : s ≤ 5) (hk : k ≤ 5) : Cl 1 jX_isOfKind [vI (nI s), vI (nI k)] w (some (vI (bI (kdN s k))), w) := by
  refine Cl.of rfl rfl rfl (lc := [some (vI (nI s)), some (vI (nI k))]) rfl ?_
  have hs : s = 0 ∨ s = 1 ∨ s = 2 ∨ s = 3 ∨ s = 4 ∨ s = 5 := by omega
  have hk : k = 0 ∨ k = 1 ∨ k = 2 ∨ k = 3 ∨ k = 4 ∨ k = 5 := by omega
  rcases hk with rfl | rfl | rfl | rfl | rfl | rfl
  · refine Rn.tsw 60 (t := 36) rfl rfl rfl ?_
    exact Rn.zr 60 rfl rfl rfl (by decide) rfl
  · refine Rn.tsw 60 (t := 38) rfl rfl rfl ?_
    rcases hs with rfl | rfl | rfl | rfl | rfl | rfl
    all_goals
      refine Rn.if2 60 rfl rfl (fun h => ?_) (fun h => ?_)
      · first
        | exact absurd h (by dsimp only [tm_c2P]; decide)
        | exact Rn.zr 60 rfl rfl rfl (by decide) rfl
      · refine Rn.if2 60 rfl rfl (fun h => ?_) (fun h => ?_)
        · first
          | exact absurd h (by dsimp only [tm_c2P]; decide)
          | exact Rn.zr 60 rfl rfl rfl (by decide) rfl
        · refine Rn.if2 60 rfl rfl (fun h => ?_) (fun h => ?_)
          all_goals first
            | exact absurd h (by dsimp only [tm_c2P]; decide)
            | (rename_i h0 h1; exact absurd h0 (by dsimp only [tm_c2P]; decide))
            | (rename_i h0 h1; exact absurd h1 (by dsimp only [tm_c2P]; decide))
            | exact Rn.zr 60 rfl rfl rfl (by decide) rfl
  · refine Rn.tsw 60 (t := 75) rfl rfl rfl ?_
    rcases hs with rfl | rfl | rfl | rfl | rfl | rfl
    all_goals
      refine Rn.if2 60 rfl rfl (fun h => ?_) (fun h => ?_)
      all_goals first
        | exact absurd h (by dsimp only [tm_c2P]; decide)
        | exact Rn.zr 60 rfl rfl rfl (by decide) rfl
  · refine Rn.tsw 60 (t := 75) rfl rfl rfl ?_
    rcases hs with rfl | rfl | rfl | rfl | rfl | rfl
    all_goals
      refine Rn.if2 60 rfl rfl (fun h => ?_) (fun h => ?_)
      all_goals first
        | exact absurd h (by dsimp only [tm_c2P]; decide)
        | exact Rn.zr 60 rfl rfl rfl (by decide) rfl
  · refine Rn.tsw 60 (t := 59) rfl rfl rfl ?_
    rcases hs with rfl | rfl | rfl | rfl | rfl | rfl
    all_goals
      refine Rn.if2 60 rfl rfl (fun h => ?_) (fun h => ?_)
      · first
        | exact absurd h (by dsimp only [tm_c2P]; decide)
        | exact Rn.zr 60 rfl rfl rfl (by decide) rfl
      · refine Rn.if2 60 rfl rfl (fun h => ?_) (fun h => ?_)
        all_goals first
          | exact absurd h (by dsimp only [tm_c2P]; decide)
          | (rename_i h0; exact absurd h0 (by dsimp only [tm_c2P]; decide))
          | exact Rn.zr 60 rfl rfl rfl (by decide) rfl
  · refine Rn.tsw 60 (t := 75) rfl rfl rfl ?_
    rcases hs with rfl | rfl | rfl | rfl | rfl | rfl
    all_goals
      refine Rn.if2 60 rfl rfl (fun h => ?_) (fun h => ?_)
      all_goals first
        | exact absurd h (by dsimp only [tm_c2P]; decide)
        | exact Rn.zr 60 rfl rfl rfl (by decide) rfl
end
section
/-! as, count -/
theorem kdN_is : ∀ s, s < 6 → ∀ k, k < 6 → (kdN s k = (decide (k = 0) || decide (k = s) || (decide (k = 1) && (decide (2 ≤ s) && decide (s ≤ 3))) || (decide (k = 4) && decide (s = 5)))) := by decide
theorem m_isOne {w : Wd} {s k : Nat} (hs : s ≤ 5) (hk : k ≤ 5) : Cl 2 jM_isOne [vI (nI s), vI (nI k)] w (some (vI (bI (kdN s k))), w) := by
  rw [kdN_is s (by omega) k (by omega)]
  refine Cl.of rfl rfl rfl (lc := [some (vI (nI s)), some (vI (nI k))]) rfl ?_
  have yes : ∀ b, b = true → Rn none 1 jM_isOne (33, [some (vI (nI s)), some (vI (nI k))], [], w) (some (vI (bI b)), w) := by
    intro b hb
    subst hb
    exact Rn.zr 60 rfl rfl rfl (by decide) rfl
  have no : ∀ b, b = false → Rn none 1 jM_isOne (37, [some (vI (nI s)), some (vI (nI k))], [], w) (some (vI (bI b)), w) := by
    intro b hb
    subst hb
    exact Rn.zr 60 rfl rfl rfl (by decide) rfl
  refine Rn.if1 60 rfl rfl (fun h => ?_) (fun h => ?_)
  · dsimp only [tm_c2P] at h
    rw [nJ_eq0 (by omega)] at h
    exact yes _ (by simp [h])
  dsimp only [tm_c2P] at h
  rw [nJ_eq0 (by omega)] at h
  refine Rn.if2 60 rfl rfl (fun h2 => ?_) (fun h2 => ?_)
  · dsimp only [tm_c2P] at h2
    rw [nI_eq (by omega) (by omega)] at h2
    exact yes _ (by simp [h2])
  dsimp only [tm_c2P] at h2
  rw [nI_eq (by omega) (by omega)] at h2
  have tl : ¬ (k = 1 ∧ 2 ≤ s ∧ s ≤ 3) → Rn none 1 jM_isOne (23, [some (vI (nI s)), some (vI (nI k))], [], w) (some (vI (bI (decide (k = 0) || decide (k = s) || (decide (k = 1) && (decide (2 ≤ s) && decide (s ≤ 3))) || (decide (k = 4) && decide (s = 5))))), w) := by
    intro hn
    have hn2 : (decide (k = 1) && (decide (2 ≤ s) && decide (s ≤ 3))) = false := by
      rw [Bool.eq_false_iff]
      intro z
      simp only [Bool.and_eq_true, decide_eq_true_eq] at z
      exact hn z
    rw [hn2]
    by_cases e4 : k = 4
    · refine Rn.if2f 60 rfl rfl (by dsimp only [tm_c2P]; rw [e4]; exact fun z => z rfl) ?_
      by_cases e5 : s = 5
      · refine Rn.if2f 60 rfl rfl (by dsimp only [tm_c2P]; rw [e5]; exact fun z => z rfl) ?_
        exact yes _ (by simp [e4, e5])
      · refine Rn.if2t 60 rfl rfl (by dsimp only [tm_c2P]; rw [nI_eq (by omega) (by omega)]; exact e5) ?_
        exact no _ (by simp [h, h2, e5])
    · refine Rn.if2t 60 rfl rfl (by dsimp only [tm_c2P]; rw [nI_eq (by omega) (by omega)]; exact e4) ?_
      exact no _ (by simp [h, h2, e4])
  by_cases e1 : k = 1
  · refine Rn.if2f 60 rfl rfl (by dsimp only [tm_c2P]; rw [e1]; exact fun z => z rfl) ?_
    have mi := m_in (w := w) (x := nI s) (y := nI 2) (z := nI 3)
    have d2 : decide (nI 2 ≤ nI s) = decide (2 ≤ s) := decide_eq_decide.mpr (nJ_le (by omega) (by omega))
    have d3 : decide (nI s ≤ nI 3) = decide (s ≤ 3) := decide_eq_decide.mpr (nJ_le (by omega) (by omega))
    rw [d2, d3] at mi
    refine Rn.cs 60 rfl rfl rfl rfl mi (by decide) ?_
    by_cases e : 2 ≤ s ∧ s ≤ 3
    · refine Rn.if1t 60 rfl rfl (by dsimp only [tm_c2P]; rw [bI_eq0, decide_eq_true e.1, decide_eq_true e.2]; decide) ?_
      exact yes _ (by simp [e1, e.1, e.2])
    · refine Rn.if1f 60 rfl rfl (by
        dsimp only [tm_c2P]
        rw [bI_eq0, Classical.not_not, Bool.eq_false_iff]
        intro z
        simp only [Bool.and_eq_true, decide_eq_true_eq] at z
        exact e z) ?_
      exact tl (fun z => e z.2)
  · refine Rn.if2t 60 rfl rfl (by dsimp only [tm_c2P]; rw [nI_eq (by omega) (by omega)]; exact e1) ?_
    exact tl (fun z => e1 z.1)
theorem op_as {x y : Int32} : Op jX_as jM_as [vI x, vI y] := by
  intro w hi
  obtain ⟨hb, c, nr, ti, o, sp, dy, wf, hok, hci, hma, hact⟩ := id hi.2.2.2.2.2
  have hpl := hma.pl hb
  have hc := hok.1
  have hc4 := hc.2.2.1
  have x4 : w (cit 0 0) 4 = nI (c 4) := hci.1.2.2.1
  rcases pk_or (x := x) (n := c 4) (by omega) with h1 | ⟨p, hp, rfl⟩
  · refine op_same hi (v := -(nI 1000001)) ?_ ?_
    · refine Cl.of rfl rfl rfl (lc := [some (vR (sg 0)), some (vI x), some (vI y)]) rfl ?_
      refine Rn.cs 60 rfl rfl rfl rfl (by rw [x4]; exact x_no (by omega) h1) (by decide) ?_
      refine Rn.if1t 60 rfl rfl (by dsimp only [tm_c2P]; decide) ?_
      exact Rn.ir 60 rfl rfl rfl rfl
    · refine Cl.of rfl rfl rfl (lc := [some (vR (sg 13)), some (vI x), some (vI y)]) rfl ?_
      refine Rn.cv 60 rfl rfl rfl rfl rfl (m_pno hc hpl h1) (by decide) ?_
      refine Rn.if1t 60 rfl rfl (by dsimp only [tm_c2P]; decide) ?_
      exact Rn.ir 60 rfl rfl rfl rfl
  have cx : ∀ {r0 : Rs}, Rn none 19 jX_as (14, [some (vR (sg 0)), some (vI (nI p)), some (vI y)], [], w) r0 → Cl 20 jX_as [vR (sg 0), vI (nI p), vI y] w r0 := by
    intro r0 k
    refine Cl.of rfl rfl rfl (lc := [some (vR (sg 0)), some (vI (nI p)), some (vI y)]) rfl ?_
    refine Rn.cs 60 rfl rfl rfl rfl (by rw [x4]; exact x_yes (by omega) hp) (by decide) ?_
    exact Rn.if1f 60 rfl rfl (by dsimp only [tm_c2P]; decide) k
  have cm : ∀ {w : Wd} {r0 : Rs}, MPl w c → Rn none 19 jM_as (8, [some (vR (sg 13)), some (vI (nI p)), some (vI y)], [], w) r0 → Cl 20 jM_as [vR (sg 13), vI (nI p), vI y] w r0 := by
    intro w r0 hpl k
    refine Cl.of rfl rfl rfl (lc := [some (vR (sg 13)), some (vI (nI p)), some (vI y)]) rfl ?_
    refine Rn.cv 60 rfl rfl rfl rfl rfl (m_pyes hc hpl hp) (by decide) ?_
    exact Rn.if1f 60 rfl rfl (by dsimp only [tm_c2P]; decide) k
  rcases pk_or (x := y) (n := 6) (by omega) with h1 | ⟨k, hk, rfl⟩
  · refine op_same hi (v := -(nI 1000001)) (cx ?_) (cm hpl ?_)
    · refine Rn.if1 60 rfl rfl (fun _ => Rn.ir 60 rfl rfl rfl rfl) (fun h2 => ?_)
      refine Rn.if2f 60 rfl rfl (Int32.not_le.mpr (nI_lt1 (n := 5) (by decide) (h1.resolve_left h2))) ?_
      exact Rn.ir 60 rfl rfl rfl rfl
    · refine Rn.cs 60 rfl rfl rfl rfl (m_no (n := 5) (by decide) h1) (by decide) ?_
      refine Rn.if1f 60 rfl rfl (by dsimp only [tm_c2P]; decide) ?_
      exact Rn.ir 60 rfl rfl rfl rfl
  have s5 := (hc.2.2.2.2 p hp).1
  have dx : ∀ {r0 : Rs}, Rn none 19 jX_as (39, [some (vR (sg 0)), some (vI (nI p)), some (vI (nI k))], [vI (bI (kdN (so c p) k))], w) r0 → Cl 20 jX_as [vR (sg 0), vI (nI p), vI (nI k)] w r0 := by
    intro r0 kk
    refine cx ?_
    refine Rn.if1f 60 rfl rfl (nI_pos (by omega)) ?_
    refine Rn.if2t 60 rfl rfl (nI_le (by omega) (by decide)) ?_
    refine Rn.al 60 rfl rfl rfl rfl (by omega) ?_
    rw [(hci.1.2.2.2.2 p hp).1]
    exact Rn.cs 60 rfl rfl rfl rfl (x_isOfKind s5 (by omega)) (by decide) kk
  have dm : ∀ {w : Wd} {r0 : Rs}, MPl w c → Rn none 19 jM_as (30, [some (vR (sg 13)), some (vI (nI p)), some (vI (nI k))], [vI (bI (kdN (so c p) k))], w) r0 → Cl 20 jM_as [vR (sg 13), vI (nI p), vI (nI k)] w r0 := by
    intro w r0 hpl kk
    refine cm hpl ?_
    refine Rn.cs 60 rfl rfl rfl rfl (m_yes (n := 5) (by decide) (by omega)) (by decide) ?_
    refine Rn.if1t 60 rfl rfl (by dsimp only [tm_c2P]; decide) ?_
    refine Rn.cv 60 rfl rfl rfl rfl rfl (m_so hc hpl hp) (by decide) ?_
    exact Rn.cs 60 rfl rfl rfl rfl (m_isOne s5 (by omega)) (by decide) kk
  have hpl2 : ∀ x, MPl (wset w (sg 0) 8 x) c := fun x => hpl.fr (by rw [wset_ne (by decide)]) (wset_ne (by decide))
  cases hb : kdN (so c p) k with
  | true =>
    rw [hb] at dx dm
    refine ⟨wset w (sg 0) 8 (nI 0), wset (wset w (sg 0) 8 (nI 0)) (sg 13) 3 (nI 0), nI p, dx ?_, dm (hpl2 _) ?_, hi.fin⟩
    · refine Rn.if1f 60 rfl rfl (by dsimp only [tm_c2P]; decide) ?_
      refine Rn.cv 60 rfl rfl rfl rfl rfl x_clean (by decide) ?_
      exact Rn.ir 60 rfl rfl rfl rfl
    · refine Rn.if1f 60 rfl rfl (by dsimp only [tm_c2P]; decide) ?_
      refine Rn.cv 60 rfl rfl rfl rfl rfl m_well (by decide) ?_
      exact Rn.ir 60 rfl rfl rfl rfl
  | false =>
    rw [hb] at dx dm
    refine op_found hi (x := nI 3) (v := -(nI 1000010) - nI 3) (dx ?_) (dm (hpl2 _) ?_)
    · refine Rn.if1t 60 rfl rfl (by dsimp only [tm_c2P]; decide) ?_
      refine Rn.cv 60 rfl rfl rfl rfl rfl x_found (by decide) ?_
      exact Rn.ir 60 rfl rfl rfl rfl
    · refine Rn.if1t 60 rfl rfl (by dsimp only [tm_c2P]; decide) ?_
      refine Rn.cv 60 rfl rfl rfl rfl rfl m_finds (by decide) ?_
      exact Rn.ir 60 rfl rfl rfl rfl
def thN (w : Wd) : Nat → Nat → Nat → Nat
  | 0, _, a => a
  | n + 1, i, a => thN w n (i + 1) (if w (sg 14) i = nI 0 then a else a + 1)
theorem x_rowsThere {w : Wd} (hi : RowsI w) : Cl 1 jX_rowsThere [vR (sg 0)] w (some (vI (nI (thN w 8 0 0))), w) := by
  have key : ∀ n i a, i + n = 8 → Rn none 0 jX_rowsThere (4, [some (vR (sg 0)), some (vI (nI a)), some (vI (nI i))], [], w) (some (vI (nI (thN w n i a))), w) := by
    intro n
    induction n with
    | zero =>
      intro i a hin
      obtain rfl : i = 8 := by omega
      refine Rn.if2t 60 rfl rfl (by dsimp only [tm_c2P]; decide) ?_
      exact Rn.ir 60 rfl rfl rfl rfl
    | succ n ih =>
      intro i a hin
      refine Rn.if2f 60 rfl rfl (nI_ge (by omega) (by omega)) ?_
      refine Rn.row 60 rfl rfl rfl (by omega) ?_
      unfold thN
      rcases hi i (by omega) with ⟨h1, h2⟩ | ⟨h1, l, m, g1, g2, g3, g4, g5⟩
      · rw [if_pos h2]
        have k := ih (i + 1) a (by omega)
        rw [nI_succ i] at k
        refine Rn.if1t 60 rfl rfl (by rw [h1]; dsimp only [tm_c2P]; decide) ?_
        exact Rn.at 2 rfl k
      · rw [if_neg (by rw [g4, nI_eq (by omega) (by omega)]; omega)]
        have k := ih (i + 1) (a + 1) (by omega)
        rw [nI_succ i, nI_succ a] at k
        refine Rn.if1f 60 rfl rfl (by rw [h1]; dsimp only [tm_c2P]; decide) ?_
        exact Rn.at 3 rfl k
  refine Cl.of rfl rfl rfl (lc := [some (vR (sg 0)), none, none]) rfl ?_
  exact Rn.at 4 rfl (key 8 0 0 (by omega))
theorem op_count {x : Int32} : Op jX_count jM_count [vI x] := by
  intro w hi
  obtain ⟨hb, c, nr, ti, o, sp, dy, wf, hok, hci, hma, hact⟩ := id hi.2.2.2.2.2
  obtain ⟨m1, m2, m3, m4, m5, m6, m7, m8, m9, m10⟩ := id hma
  simp only [Nat.zero_add] at m1 m4 m5 m6 m7 m8
  obtain ⟨d1, d2, d3, d4, d5, d6⟩ := hci.2.1
  have cm : ∀ {r0 : Rs}, Rn none 19 jM_count (33, [some (vR (sg 13)), some (vI x), some (vI (nI (thN w 8 0 0))), some (vI (nI 8))], [], w) r0 → Cl 20 jM_count [vR (sg 13), vI x] w r0 := by
    intro r0 k
    have key : ∀ n i a, i + n = 8 → thN w n i a = thN w 8 0 0 → Rn none 19 jM_count (4, [some (vR (sg 13)), some (vI x), some (vI (nI a)), some (vI (nI i))], [], w) r0 := by
      intro n
      induction n with
      | zero =>
        intro i a hin he
        obtain rfl : i = 8 := by omega
        rw [show a = thN w 8 0 0 from he]
        exact Rn.if2t 60 rfl rfl (by dsimp only [tm_c2P]; decide) k
      | succ n ih =>
        intro i a hin he
        refine Rn.if2f 60 rfl rfl (nI_ge (by omega) (by omega)) ?_
        refine Rn.al 60 rfl rfl rfl rfl (by omega) ?_
        unfold thN at he
        by_cases h : w (sg 14) i = nI 0
        · rw [if_pos h] at he
          have k := ih (i + 1) (a + 0) (by omega) he
          rw [nI_succ i, ← nI_add] at k
          refine Rn.if1f 60 rfl rfl (fun z => z h) ?_
          exact Rn.at 6 rfl k
        · rw [if_neg h] at he
          have k := ih (i + 1) (a + 1) (by omega) he
          rw [nI_succ i, ← nI_add] at k
          refine Rn.if1t 60 rfl rfl h ?_
          exact Rn.at 5 rfl k
    refine Cl.of rfl rfl rfl (lc := [some (vR (sg 13)), some (vI x), none, none]) rfl ?_
    exact Rn.at 4 rfl (key 8 0 0 (by omega) rfl)
  have cx : ∀ {r0 : Rs}, Rn none 19 jX_count (0, [some (vR (sg 0)), some (vI x)], [], w) r0 → Cl 20 jX_count [vR (sg 0), vI x] w r0 := fun k => Cl.of rfl rfl rfl rfl k
  rcases pk_or (x := x) (n := 9) (by omega) with h1 | ⟨k, hk, rfl⟩
  · refine op_same hi (v := -(nI 1000001)) (cx ?_) (cm ?_)
    · refine Rn.tsw 60 (t := 121) rfl rfl (tsw_out 8 rfl (by decide) h1 rfl) ?_
      exact Rn.ir 60 rfl rfl rfl rfl
    · refine Rn.tsw 60 (t := 134) rfl rfl (tsw_out 8 rfl (by decide) h1 rfl) ?_
      exact Rn.ir 60 rfl rfl rfl rfl
  obtain ⟨e1, am, ax, aS, a1, a2, a3, a4, a5⟩ : w (sg 5) 0 = w (sg 13) 8 ∧ ∃ m x S, m ≤ 24 ∧ x < 24 ∧ AcC w (c 4) m x S ∧ AcM w (c 4) m S wf ∧ ∀ i, i < m → CtOk c nr ti (S i).1 (S i).2.1 (S i).2.2.1 (S i).2.2.2 := by
    obtain ⟨m, x, S, a1, a2, a3, a4, a5⟩ := hact
    exact ⟨a3.1.trans a4.1.symm, m, x, S, a1, a2, a3, a4, a5⟩
  obtain ⟨g0, n, g1, g2, g3, g4⟩ := hi.2.2.1
  have hk : k = 0 ∨ k = 1 ∨ k = 2 ∨ k = 3 ∨ k = 4 ∨ k = 5 ∨ k = 6 ∨ k = 7 ∨ k = 8 := by omega
  rcases hk with rfl | rfl | rfl | rfl | rfl | rfl | rfl | rfl | rfl
  · refine op_same hi (v := nI (thN w 8 0 0)) (cx ?_) (cm ?_)
    · refine Rn.tsw 60 (t := 52) rfl rfl rfl ?_
      refine Rn.cv 60 rfl rfl rfl rfl rfl (x_rowsThere hi.2.1) (by decide) ?_
      exact Rn.ir 60 rfl rfl rfl rfl
    · refine Rn.tsw 60 (t := 84) rfl rfl rfl ?_
      exact Rn.ir 60 rfl rfl rfl rfl
  · refine op_same hi (v := nI (c 0)) (cx ?_) (cm ?_)
    · refine Rn.tsw 60 (t := 57) rfl rfl rfl ?_
      rw [← hci.1.1]
      exact Rn.ir 60 rfl rfl rfl rfl
    · refine Rn.tsw 60 (t := 86) rfl rfl rfl ?_
      refine Rn.cv 60 rfl rfl rfl rfl rfl (m_get hb rfl (by decide) m1) (by decide) ?_
      exact Rn.ir 60 rfl rfl rfl rfl
  · refine op_same hi (v := nI (c 3)) (cx ?_) (cm ?_)
    · refine Rn.tsw 60 (t := 65) rfl rfl rfl ?_
      rw [← hci.1.2.1]
      exact Rn.ir 60 rfl rfl rfl rfl
    · refine Rn.tsw 60 (t := 92) rfl rfl rfl ?_
      refine Rn.cv 60 rfl rfl rfl rfl rfl (m_get hb rfl (by decide) m4) (by decide) ?_
      exact Rn.ir 60 rfl rfl rfl rfl
  · refine op_same hi (v := nI (c 4)) (cx ?_) (cm ?_)
    · refine Rn.tsw 60 (t := 73) rfl rfl rfl ?_
      rw [← hci.1.2.2.1]
      exact Rn.ir 60 rfl rfl rfl rfl
    · refine Rn.tsw 60 (t := 98) rfl rfl rfl ?_
      refine Rn.cv 60 rfl rfl rfl rfl rfl (m_get hb rfl (by decide) m5) (by decide) ?_
      exact Rn.ir 60 rfl rfl rfl rfl
  · refine op_same hi (v := nI dy) (cx ?_) (cm ?_)
    · refine Rn.tsw 60 (t := 81) rfl rfl rfl ?_
      rw [← d5]
      exact Rn.ir 60 rfl rfl rfl rfl
    · refine Rn.tsw 60 (t := 104) rfl rfl rfl ?_
      refine Rn.cv 60 rfl rfl rfl rfl rfl (m_get hb rfl (by decide) m6) (by decide) ?_
      exact Rn.ir 60 rfl rfl rfl rfl
  · refine op_same hi (v := nI o) (cx ?_) (cm ?_)
    · refine Rn.tsw 60 (t := 89) rfl rfl rfl ?_
      rw [← d3]
      exact Rn.ir 60 rfl rfl rfl rfl
    · refine Rn.tsw 60 (t := 110) rfl rfl rfl ?_
      refine Rn.cv 60 rfl rfl rfl rfl rfl (m_get hb rfl (by decide) m7) (by decide) ?_
      exact Rn.ir 60 rfl rfl rfl rfl
  · refine op_same hi (v := nI sp) (cx ?_) (cm ?_)
    · refine Rn.tsw 60 (t := 97) rfl rfl rfl ?_
      rw [← d4]
      exact Rn.ir 60 rfl rfl rfl rfl
    · refine Rn.tsw 60 (t := 117) rfl rfl rfl ?_
      refine Rn.cv 60 rfl rfl rfl rfl rfl (m_get hb rfl (by decide) m8) (by decide) ?_
      exact Rn.ir 60 rfl rfl rfl rfl
  · refine op_same hi (v := w (sg 5) 0) (cx ?_) (cm ?_)
    · refine Rn.tsw 60 (t := 105) rfl rfl rfl ?_
      exact Rn.ir 60 rfl rfl rfl rfl
    · refine Rn.tsw 60 (t := 124) rfl rfl rfl ?_
      rw [e1]
      exact Rn.ir 60 rfl rfl rfl rfl
  · refine op_same hi (v := w (sg 2) 1) (cx ?_) (cm ?_)
    · refine Rn.tsw 60 (t := 113) rfl rfl rfl ?_
      exact Rn.ir 60 rfl rfl rfl rfl
    · refine Rn.tsw 60 (t := 129) rfl rfl rfl ?_
      rw [g2, ← g3]
      exact Rn.ir 60 rfl rfl rfl rfl
end
section
/-! the reference foretells: many dawns, how many, so, fewest -/
def Mt (w : Wd) (c : Nat → Nat) (nr ti o sp dy : Nat) (wf : Nat → Nat) : Prop := w (sg 13) 5 = nI 0 ∧ MaIs w 0 c nr ti o sp dy wf
theorem Mt.mfr {w w' : Wd} {c : Nat → Nat} {nr ti o sp dy : Nat} {wf : Nat → Nat} (h : Mt w c nr ti o sp dy wf) (f : MFr w w') : Mt w' c nr ti o sp dy wf := ⟨(f.2 5 (by decide) (by decide) (by decide) (by decide)).trans h.1, h.2.mfr f⟩
theorem Mt.pl {w : Wd} {c : Nat → Nat} {nr ti o sp dy : Nat} {wf : Nat → Nat} (h : Mt w c nr ti o sp dy wf) : MPl w c := h.2.pl h.1
theorem m_hasCity {w : Wd} {c : Nat → Nat} (hc : PlOk c) (h : MPl w c) : Cl 2 jM_hasCity [vR (sg 13)] w (some (vI (bI (decide (0 < c 0)))), w) := by
  have h0 := hc.1
  refine Cl.of rfl rfl rfl (lc := [some (vR (sg 13))]) rfl ?_
  refine Rn.cv 60 rfl rfl rfl rfl rfl (m_Q h) (by decide) ?_
  by_cases e : 0 < c 0
  · rw [decide_eq_true e]
    refine Rn.if1f 60 rfl rfl (nI_nle e (by omega)) ?_
    exact Rn.zr 60 rfl rfl rfl (by decide) rfl
  · rw [decide_eq_false e, show c 0 = 0 by omega]
    refine Rn.if1t 60 rfl rfl (by dsimp only [tm_c2P]; decide) ?_
    exact Rn.zr 60 rfl rfl rfl (by decide) rfl
theorem m_dawnMany {w : Wd} {c : Nat → Nat} {nr ti o sp : Nat} {wf : Nat → Nat} (hc : PlOk c) (h : MPl w c) (hk : MWk w c nr ti o sp wf) (hd : DyOk c nr ti o sp wf) {n : Nat} (hn : n ≤ 100000) : ∃ w', Cl 7 jM_dawnMany [vR (sg 13), vI (nI n)] w (none, w') ∧ MFr w w' ∧ MWk w' c nr ti (daI c nr ti wf n (o, sp)).1 (daI c nr ti wf n (o, sp)).2 wf ∧ DyOk c nr ti (daI c nr ti wf n (o, sp)).1 (daI c nr ti wf n (o, sp)).2 wf := by
  have key : ∀ m i w o sp, i + m = n → MPl w c → MWk w c nr ti o sp wf → DyOk c nr ti o sp wf → ∃ w', Rn none 6 jM_dawnMany (2, [some (vR (sg 13)), some (vI (nI n)), some (vI (nI i))], [], w) (none, w') ∧ MFr w w' ∧ MWk w' c nr ti (daI c nr ti wf m (o, sp)).1 (daI c nr ti wf m (o, sp)).2 wf ∧ DyOk c nr ti (daI c nr ti wf m (o, sp)).1 (daI c nr ti wf m (o, sp)).2 wf := by
    intro m
    induction m with
    | zero =>
      intro i w o sp hi h hk hd
      obtain rfl : i = n := by omega
      refine ⟨w, ?_, MFr.rf, hk, hd⟩
      refine Rn.if2t 60 rfl rfl (nI_le (Nat.le_refl _) (by omega)) ?_
      exact Rn.vr 60 rfl rfl rfl rfl
    | succ m ih =>
      intro i w o sp hi h hk hd
      obtain ⟨w1, a1, a2, a3⟩ := m_dawns hc h hk hd
      obtain ⟨w2, b1, b2, b3, b4⟩ := ih (i + 1) w1 _ _ (by omega) (h.mfr a2) a3 (hd.da hc)
      refine ⟨w2, ?_, a2.tr b2, b3, b4⟩
      refine Rn.if2f 60 rfl rfl (nI_ge (by omega) (by omega)) ?_
      refine Rn.cv 60 rfl rfl rfl rfl rfl a1 (by decide) ?_
      rw [nI_succ i] at b1
      exact Rn.at 2 rfl b1
  obtain ⟨w', b1, b2⟩ := key n 0 w o sp (by omega) h hk hd
  refine ⟨w', ?_, b2⟩
  refine Cl.of rfl rfl rfl (lc := [some (vR (sg 13)), some (vI (nI n)), none]) rfl ?_
  exact Rn.at 2 rfl b1
theorem bI_nat (b : Bool) : bI b = nI b.toNat := by cases b <;> rfl
theorem m_manyOf {w : Wd} {s : Nat} (h8 : s < 256) : Cl 1 jM_manyOf [vI (nI s)] w (some (vI (nI (cnt s))), w) := by
  have key : ∀ n k a, k + n = 8 → a + ((List.range' k n).map (fun i => (s.testBit i).toNat)).sum = cnt s → Rn none 0 jM_manyOf (4, [some (vI (nI s)), some (vI (nI a)), some (vI (nI k))], [], w) (some (vI (nI (cnt s))), w) := by
    intro n
    induction n with
    | zero =>
      intro k a hk ha
      obtain rfl : k = 8 := by omega
      rw [← ha]
      refine Rn.if2t 60 rfl rfl (by dsimp only [tm_c2P]; decide) ?_
      exact Rn.ir 60 rfl rfl rfl rfl
    | succ n ih =>
      intro k a hk ha
      have k1 := ih (k + 1) (a + (s.testBit k).toNat) (by omega) (by
        rw [← ha, List.range'_succ, List.map_cons, List.sum_cons, Nat.add_assoc])
      rw [nI_succ k, ← nI_add, ← bI_nat, ← nJ_bit (by omega) (show k < 32 by omega)] at k1
      refine Rn.if2f 60 rfl rfl (nI_ge (by omega) (by omega)) ?_
      exact Rn.at 10 rfl k1
  refine Cl.of rfl rfl rfl (lc := [some (vI (nI s)), none, none]) rfl ?_
  refine Rn.at 4 rfl (key 8 0 0 (by omega) ?_)
  unfold cnt
  simp [List.range']
  omega
theorem m_isSo {w : Wd} {c : Nat → Nat} {nr ti o sp dy g s n : Nat} {wf : Nat → Nat} (b : Bool) (hc : PlOk c) (h : Mt w c nr ti o sp dy wf) (hd : DyOk c nr ti o sp wf) (hg : g < c 3) (hs : s < 32) (hn : n ≤ 10) : ∃ w', Cl 8 jM_isSo [vR (sg 13), vI (nI g), vI (bI b), vI (nI s), vI (nI n)] w (some (vI (bI (soK c nr ti (wfS wf s g b (c 4)) g b n (o, sp)))), w') ∧ MFr w w' := by
  have hc3 := hc.2.1
  have hc4 := hc.2.2.1
  obtain ⟨w1, a1, a2, a3⟩ := m_begin hc h.1 h.2
  have key : ∀ m p w2 x6, p + m = c 4 → MFr w w2 → MWk w2 c nr ti o sp (wfS wf s g b p) → ∃ w3, MFr w w3 ∧ MWk w3 c nr ti o sp (wfS wf s g b (c 4)) ∧ ∀ r, Rn none 7 jM_isSo (57, [some (vR (sg 13)), some (vI (nI g)), some (vI (bI b)), some (vI (nI s)), some (vI (nI n)), some (vI (nI (c 4))), x6], [], w3) r → Rn none 7 jM_isSo (7, [some (vR (sg 13)), some (vI (nI g)), some (vI (bI b)), some (vI (nI s)), some (vI (nI n)), some (vI (nI p)), x6], [], w2) r := by
    intro m
    induction m with
    | zero =>
      intro p w2 x6 hp f hk
      obtain rfl : p = c 4 := by omega
      refine ⟨w2, f, hk, fun r k => ?_⟩
      refine Rn.cv 60 rfl rfl rfl rfl rfl (m_P (h.mfr f).pl) (by decide) ?_
      exact Rn.if2t 60 rfl rfl (nI_le (Nat.le_refl _) (by omega)) k
    | succ m ih =>
      intro p w2 x6 hp f hk
      have hpl : p < c 4 := by omega
      have e0 : wfS wf s g b p p = wf p := by unfold wfS; rw [if_neg (by omega)]
      cases hb : s.testBit p with
      | false =>
        obtain ⟨w3, g1, g2, g3⟩ := ih (p + 1) w2 x6 (by omega) f ⟨hk.1, hk.2.1, hk.2.2.1, hk.2.2.2.1, fun q hq => by
          rw [hk.2.2.2.2 q hq]
          unfold wfS
          by_cases e : q = p
          · subst e
            rw [if_neg (by omega), if_neg (by rw [hb]; exact fun z => by cases z.2)]
          · by_cases e2 : q < p
            · simp [e2, show q < p + 1 by omega]
            · simp [e2, show ¬ q < p + 1 by omega]⟩
        refine ⟨w3, g1, g2, fun r k => ?_⟩
        refine Rn.cv 60 rfl rfl rfl rfl rfl (m_P (h.mfr f).pl) (by decide) ?_
        refine Rn.if2f 60 rfl rfl (nI_ge hpl (by omega)) ?_
        refine Rn.if2t 60 rfl rfl (by dsimp only [tm_c2P]; rw [nJ_bit (by omega) (by omega), bI_eq1, hb]; exact fun z => by cases z) ?_
        have k2 := g3 r k
        rw [nI_succ p] at k2
        exact Rn.at 2 rfl k2
      | true =>
        obtain ⟨w3, g1, g2, g3⟩ := ih (p + 1) (wset w2 (sg 21) p (nI (sbN (wf p) g b))) x6 (by omega) (f.tr MFr.wis) ⟨by rw [wset_ne (by decide)]; exact hk.1, by rw [wset_ne (by decide)]; exact hk.2.1, by rw [wset_ne (by decide)]; exact hk.2.2.1, by rw [wset_ne (by decide)]; exact hk.2.2.2.1, fun q hq => by
          by_cases e : q = p
          · subst e
            rw [wset_s]
            unfold wfS
            rw [if_pos ⟨by omega, hb⟩]
          · rw [wset_k e, hk.2.2.2.2 q hq]
            unfold wfS
            by_cases e2 : q < p
            · simp [e2, show q < p + 1 by omega]
            · simp [e2, show ¬ q < p + 1 by omega]⟩
        refine ⟨w3, g1, g2, fun r k => ?_⟩
        refine Rn.cv 60 rfl rfl rfl rfl rfl (m_P (h.mfr f).pl) (by decide) ?_
        refine Rn.if2f 60 rfl rfl (nI_ge hpl (by omega)) ?_
        refine Rn.if2f 60 rfl rfl (by dsimp only [tm_c2P]; rw [nJ_bit (by omega) (by omega), bI_eq1, hb]; exact fun z => z rfl) ?_
        refine Rn.al 60 rfl rfl rfl rfl (by omega) ?_
        rw [hk.2.2.2.2 p hpl, e0]
        refine Rn.as 60 rfl rfl rfl rfl (by omega) ?_
        dsimp only
        rw [nJ_1shl (by omega), nJ_clr g (by omega) _ (hd.2.2.2.2 p hpl), bI_shl (by omega), nJ_or]
        have k2 := g3 r k
        rw [nI_succ p] at k2
        exact Rn.at 2 rfl k2
  obtain ⟨w3, g1, g2, g3⟩ := key (c 4) 0 w1 none (by omega) a2 ⟨a3.1, a3.2.1, a3.2.2.1, a3.2.2.2.1, fun q hq => by
    unfold wfS
    rw [if_neg (by omega)]
    exact a3.2.2.2.2 q hq⟩
  have hd3 : DyOk c nr ti o sp (wfS wf s g b (c 4)) := ⟨hd.1, hd.2.1, hd.2.2.1, hd.2.2.2.1, fun p hp => by
    unfold wfS
    split
    · exact sbN_lt (hd.2.2.2.2 p hp) (by omega)
    · exact hd.2.2.2.2 p hp⟩
  have key2 : ∀ m i w4 o sp, i + m = n → MFr w w4 → MWk w4 c nr ti o sp (wfS wf s g b (c 4)) → DyOk c nr ti o sp (wfS wf s g b (c 4)) → ∃ w5, MFr w w5 ∧ Rn none 7 jM_isSo (63, [some (vR (sg 13)), some (vI (nI g)), some (vI (bI b)), some (vI (nI s)), some (vI (nI n)), some (vI (bI true)), some (vI (nI i))], [], w4) (some (vI (bI (soK c nr ti (wfS wf s g b (c 4)) g b m (o, sp)))), w5) := by
    intro m
    induction m with
    | zero =>
      intro i w4 o sp hi f hk hd
      obtain rfl : i = n := by omega
      refine ⟨w4, f, ?_⟩
      refine Rn.if2t 60 rfl rfl (nI_le (Nat.le_refl _) (by omega)) ?_
      exact Rn.zr 60 rfl rfl rfl (by decide) rfl
    | succ m ih =>
      intro i w4 o sp hi f hk hd
      obtain ⟨w5, b1, b2, b3⟩ := m_dawns hc (h.mfr f).pl hk hd
      have hd5 := hd.da hc
      have o8 := hd5.2.2.1
      by_cases e : (da c nr ti (wfS wf s g b (c 4)) (o, sp)).1.testBit g = b
      · obtain ⟨w6, d1, d2⟩ := ih (i + 1) w5 _ _ (by omega) (f.tr b2) b3 hd5
        refine ⟨w6, d1, ?_⟩
        unfold soK
        rw [if_pos e]
        refine Rn.if2f 60 rfl rfl (nI_ge (by omega) (by omega)) ?_
        refine Rn.if1f 60 rfl rfl (by dsimp only [tm_c2P]; decide) ?_
        refine Rn.cv 60 rfl rfl rfl rfl rfl b1 (by decide) ?_
        refine Rn.if2f 60 rfl rfl (by dsimp only [tm_c2P]; rw [b3.1, nJ_bit (by omega) (by omega), e]; exact fun z => z rfl) ?_
        rw [nI_succ i] at d2
        exact Rn.at 5 rfl d2
      · refine ⟨w5, f.tr b2, ?_⟩
        unfold soK
        rw [if_neg e]
        refine Rn.if2f 60 rfl rfl (nI_ge (by omega) (by omega)) ?_
        refine Rn.if1f 60 rfl rfl (by dsimp only [tm_c2P]; decide) ?_
        refine Rn.cv 60 rfl rfl rfl rfl rfl b1 (by decide) ?_
        refine Rn.if2t 60 rfl rfl (by dsimp only [tm_c2P]; rw [b3.1, nJ_bit (by omega) (by omega), bI_inj]; exact e) ?_
        refine Rn.if2 60 rfl rfl (fun _ => Rn.zr 60 rfl rfl rfl (by decide) rfl) (fun _ => ?_)
        refine Rn.if1t 60 rfl rfl (by dsimp only [tm_c2P]; decide) ?_
        exact Rn.zr 60 rfl rfl rfl (by decide) rfl
  obtain ⟨w5, l1, l2⟩ := key2 n 0 w3 o sp (by omega) g1 g2 hd3
  refine ⟨w5, ?_, l1⟩
  refine Cl.of rfl rfl rfl (lc := [some (vR (sg 13)), some (vI (nI g)), some (vI (bI b)), some (vI (nI s)), some (vI (nI n)), none, none]) rfl ?_
  refine Rn.cv 60 rfl rfl rfl rfl rfl a1 (by decide) ?_
  refine Rn.at 2 rfl (g3 _ ?_)
  exact Rn.at 4 rfl l2
/-- how many, or which: what won and kept answer -/
def moS (a : Option Nat) (k : Nat) : Int32 := match a with
  | none => -(nI 1000000)
  | some f => if k = 1 then nI f else nI (cnt f)
theorem feI_none {a : Option Nat} (h : ∀ f, a = some f → f < 256) : feI a = -(nI 1000000) ↔ a = none := by
  cases a with
  | none => exact ⟨fun _ => rfl, fun _ => rfl⟩
  | some f =>
    have hf := h f rfl
    constructor
    · intro z
      exfalso
      have z : nI f = -(nI 1000000) := z
      have z2 := congrArg Int32.toInt z
      rw [nI_toInt (by omega)] at z2
      have e : (-(nI 1000000)).toInt = -1000000 := by decide
      omega
    · intro z
      cases z
theorem x_manyOrSet {w : Wd} {a : Option Nat} {k : Nat} (h : ∀ f, a = some f → f < 256) (hk : k < 2) : Cl 2 jX_manyOrSet [vI (feI a), vI (nI k)] w (some (vI (moS a k)), w) := by
  refine Cl.of rfl rfl rfl (lc := [some (vI (feI a)), some (vI (nI k))]) rfl ?_
  refine Rn.if2 60 rfl rfl (fun h1 => ?_) (fun h1 => ?_)
  · dsimp only [tm_c2P] at h1
    rw [feI_none h] at h1
    subst h1
    exact Rn.ir 60 rfl rfl rfl rfl
  · dsimp only [tm_c2P] at h1
    rw [feI_none h] at h1
    cases a with
    | none => exact absurd rfl h1
    | some f =>
      by_cases e : k = 1
      · refine Rn.if2f 60 rfl rfl (by dsimp only [tm_c2P]; rw [e]; exact fun z => z rfl) ?_
        refine Rn.ir 60 rfl rfl rfl ?_
        unfold moS
        dsimp only
        rw [if_pos e]
        rfl
      · refine Rn.if2t 60 rfl rfl (by dsimp only [tm_c2P]; rw [nI_eq (by omega) (by omega)]; exact e) ?_
        refine Rn.cs 60 rfl rfl rfl rfl (sp_bitCount (h f rfl)) (by decide) ?_
        refine Rn.ir 60 rfl rfl rfl ?_
        unfold moS
        dsimp only
        rw [if_neg e]
theorem m_fewest {w : Wd} {c : Nat → Nat} {nr ti o sp dy g n k : Nat} {wf : Nat → Nat} (b : Bool) (hc : PlOk c) (h : Mt w c nr ti o sp dy wf) (hd : DyOk c nr ti o sp wf) (hg : g < c 3) (hn : n ≤ 10) (hk : k < 2) : ∃ w', Cl 9 jM_fewest [vR (sg 13), vI (nI g), vI (bI b), vI (nI n), vI (nI k)] w (some (vI (moS (feN (fun s => soK c nr ti (wfS wf s g b (c 4)) g b n (o, sp)) (2 ^ c 4) 0 none) k)), w') ∧ MFr w w' := by
  have hc3 := hc.2.1
  have hc4 := hc.2.2.1
  have hp4 : 2 ^ c 4 ≤ 32 := Nat.pow_le_pow_right (n := 2) (by decide) hc4
  have key : ∀ m s a w2 x7, s + m = 2 ^ c 4 → (∀ f, a = some f → f < 32) → MFr w w2 → ∃ w3, MFr w w3 ∧ Rn none 8 jM_fewest (7, [some (vR (sg 13)), some (vI (nI g)), some (vI (bI b)), some (vI (nI n)), some (vI (nI k)), some (vI (feI a)), some (vI (nI s)), x7], [], w2) (some (vI (moS (feN (fun s => soK c nr ti (wfS wf s g b (c 4)) g b n (o, sp)) m s a) k)), w3) := by
    intro m
    induction m with
    | zero =>
      intro s a w2 x7 hs ha f
      obtain rfl : s = 2 ^ c 4 := by omega
      refine ⟨w2, f, ?_⟩
      have h2 := m_P (h.mfr f).pl
      refine Rn.cv 60 rfl rfl rfl rfl rfl h2 (by decide) ?_
      refine Rn.if2t 60 rfl rfl (by dsimp only [tm_c2P]; rw [nJ_1shl (by omega)]; exact nI_le (Nat.le_refl _) (by omega)) ?_
      refine Rn.if2 60 rfl rfl (fun h1 => ?_) (fun h1 => ?_)
      · dsimp only [tm_c2P] at h1
        rw [feI_none (fun f hf => by have := ha f hf; omega)] at h1
        subst h1
        exact Rn.ir 60 rfl rfl rfl rfl
      · dsimp only [tm_c2P] at h1
        rw [feI_none (fun f hf => by have := ha f hf; omega)] at h1
        cases a with
        | none => exact absurd rfl h1
        | some f =>
          have hf := ha f rfl
          unfold feN moS
          dsimp only
          by_cases e : k = 1
          · rw [if_pos e]
            refine Rn.if2f 60 rfl rfl (by dsimp only [tm_c2P]; rw [e]; exact fun z => z rfl) ?_
            exact Rn.ir 60 rfl rfl rfl rfl
          · rw [if_neg e]
            refine Rn.if2t 60 rfl rfl (by dsimp only [tm_c2P]; rw [nI_eq (by omega) (by omega)]; exact e) ?_
            refine Rn.cs 60 rfl rfl rfl rfl (m_manyOf (s := f) (by omega)) (by decide) ?_
            exact Rn.ir 60 rfl rfl rfl rfl
    | succ m ih =>
      intro s a w2 x7 hs ha f
      have hc8 := cnt_le s
      have head : ∀ r, Rn none 8 jM_fewest (44, [some (vR (sg 13)), some (vI (nI g)), some (vI (bI b)), some (vI (nI n)), some (vI (nI k)), some (vI (feI a)), some (vI (nI s)), x7], [vI (bI (feQ a s))], w2) r → Rn none 8 jM_fewest (7, [some (vR (sg 13)), some (vI (nI g)), some (vI (bI b)), some (vI (nI n)), some (vI (nI k)), some (vI (feI a)), some (vI (nI s)), x7], [], w2) r := by
        intro r kk
        refine Rn.cv 60 rfl rfl rfl rfl rfl (m_P (h.mfr f).pl) (by decide) ?_
        refine Rn.if2f 60 rfl rfl (by dsimp only [tm_c2P]; rw [nJ_1shl (by omega)]; exact nI_ge (by omega) (by omega)) ?_
        refine Rn.if2 60 rfl rfl (fun h1 => ?_) (fun h1 => ?_)
        · dsimp only [tm_c2P] at h1
          rw [feI_none (fun f hf => by have := ha f hf; omega)] at h1
          subst h1
          exact Rn.at 2 rfl kk
        · dsimp only [tm_c2P] at h1
          rw [feI_none (fun f hf => by have := ha f hf; omega)] at h1
          cases a with
          | none => exact absurd rfl h1
          | some q =>
            have hq := ha q rfl
            have hq8 := cnt_le q
            refine Rn.cs 60 rfl rfl rfl rfl (m_manyOf (s := s) (by omega)) (by decide) ?_
            refine Rn.cs 60 rfl rfl rfl rfl (m_manyOf (s := q) (by omega)) (by decide) ?_
            by_cases e : cnt s < cnt q
            · rw [show feQ (some q) s = true from decide_eq_true e] at kk
              refine Rn.if2f 60 rfl rfl (nI_ge e (by omega)) ?_
              exact Rn.at 2 rfl kk
            · rw [show feQ (some q) s = false from decide_eq_false e] at kk
              refine Rn.if2t 60 rfl rfl (nI_le (by omega) (by omega)) ?_
              exact Rn.at 1 rfl kk
      have fin : ∀ a' w4, (∀ f, a' = some f → f < 32) → MFr w w4 → ∃ w3, MFr w w3 ∧ Rn none 8 jM_fewest (70, [some (vR (sg 13)), some (vI (nI g)), some (vI (bI b)), some (vI (nI n)), some (vI (nI k)), some (vI (feI a)), some (vI (nI s)), some (vI (bI (feQ a s)))], [vI (feI a')], w4) (some (vI (moS (feN (fun s => soK c nr ti (wfS wf s g b (c 4)) g b n (o, sp)) m (s + 1) a') k)), w3) := by
        intro a' w4 ha' f4
        obtain ⟨w3, d1, d2⟩ := ih (s + 1) a' w4 (some (vI (bI (feQ a s)))) (by omega) ha' f4
        refine ⟨w3, d1, ?_⟩
        rw [nI_succ s] at d2
        exact Rn.at 3 rfl d2
      unfold feN
      cases hq : feQ a s with
      | false =>
        obtain ⟨w3, d1, d2⟩ := fin a w2 ha f
        refine ⟨w3, d1, head _ ?_⟩
        rw [hq] at d2 ⊢
        rw [Bool.false_and, if_neg (by decide)]
        refine Rn.if1t 60 rfl rfl (by dsimp only [tm_c2P]; decide) ?_
        exact Rn.at 1 rfl d2
      | true =>
        obtain ⟨w4, e1, e2⟩ := m_isSo (s := s) b hc (h.mfr f) hd hg (by omega) hn
        rw [Bool.true_and]
        cases ht : soK c nr ti (wfS wf s g b (c 4)) g b n (o, sp) with
        | false =>
          obtain ⟨w3, d1, d2⟩ := fin a w4 ha (f.tr e2)
          refine ⟨w3, d1, head _ ?_⟩
          rw [hq] at d2 ⊢
          rw [ht] at e1
          rw [if_neg (by decide)]
          refine Rn.if1f 60 rfl rfl (by dsimp only [tm_c2P]; decide) ?_
          refine Rn.cv 60 rfl rfl rfl rfl rfl e1 (by decide) ?_
          refine Rn.if1t 60 rfl rfl (by dsimp only [tm_c2P]; decide) ?_
          exact Rn.at 1 rfl d2
        | true =>
          obtain ⟨w3, d1, d2⟩ := fin (some s) w4 (fun f hf => by cases hf; omega) (f.tr e2)
          refine ⟨w3, d1, head _ ?_⟩
          rw [hq] at d2 ⊢
          rw [ht] at e1
          rw [if_pos rfl]
          refine Rn.if1f 60 rfl rfl (by dsimp only [tm_c2P]; decide) ?_
          refine Rn.cv 60 rfl rfl rfl rfl rfl e1 (by decide) ?_
          refine Rn.if1f 60 rfl rfl (by dsimp only [tm_c2P]; decide) ?_
          exact Rn.at 2 rfl d2
  obtain ⟨w3, d1, d2⟩ := key (2 ^ c 4) 0 none w none (by omega) (fun f hf => by cases hf) MFr.rf
  refine ⟨w3, ?_, d1⟩
  refine Cl.of rfl rfl rfl (lc := [some (vR (sg 13)), some (vI (nI g)), some (vI (bI b)), some (vI (nI n)), some (vI (nI k)), none, none, none]) rfl ?_
  exact Rn.at 4 rfl d2
end
section
/-! foretold, asked of both: ahead, won, kept -/
theorem Inv.seer {w w' : Wd} (hi : Inv w) (f : FrR w w') : Inv w' := hi.same (fun n hn => Same.seer f (by omega))
theorem TwnI.now {w : Wd} {c : Nat → Nat} {nr ti o sp dy : Nat} {wf : Nat → Nat} (h : CiIs w 0 c nr ti o sp dy wf) : Now w c nr ti o sp dy wf := ⟨h.1, h.2.1⟩
theorem Mt.seer {w w' : Wd} {c : Nat → Nat} {nr ti o sp dy : Nat} {wf : Nat → Nat} (h : Mt w c nr ti o sp dy wf) (f : FrR w w') : Mt w' c nr ti o sp dy wf := ⟨by rw [f _ (fun p => sg_cit) (fun p => sg_cit) (by decide)]; exact h.1, h.2.fr (f _ (fun p => sg_cit) (fun p => sg_cit) (by decide))⟩
theorem x_there {w : Wd} {c : Nat → Nat} {nr ti o sp dy : Nat} {wf : Nat → Nat} (hc : PlOk c) (h : CiIs w 0 c nr ti o sp dy wf) : Cl 1 jC_isThere [vR (cit 0 0)] w (some (vI (bI (decide (0 < c 0)))), w) := sp_isThere h.1.1 (by have := hc.1; omega)
theorem op_ahead {x y : Int32} : Op jX_ahead jM_ahead [vI x, vI y] := by
  intro w hi
  obtain ⟨hb, c, nr, ti, o, sp, dy, wf, hok, hci, hma, hact⟩ := id hi.2.2.2.2.2
  have hM : Mt w c nr ti o sp dy wf := ⟨hb, hma⟩
  have hc := hok.1
  have hc0 := hc.1
  by_cases h0 : 0 < c 0
  · have cx : ∀ {r0 : Rs}, Rn none 19 jX_ahead (13, [some (vR (sg 0)), some (vI x), some (vI y), none], [], w) r0 → Cl 20 jX_ahead [vR (sg 0), vI x, vI y] w r0 := by
      intro r0 k
      refine Cl.of rfl rfl rfl (lc := [some (vR (sg 0)), some (vI x), some (vI y), none]) rfl ?_
      refine Rn.cv 60 rfl rfl rfl rfl rfl (x_there hc hci) (by decide) ?_
      rw [decide_eq_true h0]
      exact Rn.if1t 60 rfl rfl (by dsimp only [tm_c2P]; decide) k
    have cm : ∀ {w : Wd} {r0 : Rs}, Mt w c nr ti o sp dy wf → Rn none 19 jM_ahead (10, [some (vR (sg 13)), some (vI x), some (vI y)], [], w) r0 → Cl 20 jM_ahead [vR (sg 13), vI x, vI y] w r0 := by
      intro w r0 hM k
      refine Cl.of rfl rfl rfl (lc := [some (vR (sg 13)), some (vI x), some (vI y)]) rfl ?_
      refine Rn.cv 60 rfl rfl rfl rfl rfl (m_hasCity hc hM.pl) (by decide) ?_
      rw [decide_eq_true h0]
      exact Rn.if1t 60 rfl rfl (by dsimp only [tm_c2P]; decide) k
    rcases pk_or (x := x) (n := 61) (by omega) with h1 | ⟨n, hn, rfl⟩
    · refine op_same hi (v := -(nI 1000001)) (cx ?_) (cm hM ?_)
      · refine Rn.if1 60 rfl rfl (fun _ => Rn.ir 60 rfl rfl rfl rfl) (fun h2 => ?_)
        refine Rn.if2t 60 rfl rfl (nI_lt1 (n := 60) (by decide) (h1.resolve_left h2)) ?_
        exact Rn.ir 60 rfl rfl rfl rfl
      · refine Rn.cs 60 rfl rfl rfl rfl (m_no (n := 60) (by decide) h1) (by decide) ?_
        refine Rn.if1t 60 rfl rfl (by dsimp only [tm_c2P]; decide) ?_
        exact Rn.ir 60 rfl rfl rfl rfl
    have dx : ∀ {r0 : Rs}, Rn none 19 jX_ahead (23, [some (vR (sg 0)), some (vI (nI n)), some (vI y), none], [], w) r0 → Cl 20 jX_ahead [vR (sg 0), vI (nI n), vI y] w r0 := by
      intro r0 k
      refine cx ?_
      refine Rn.if1f 60 rfl rfl (nI_pos (by omega)) ?_
      exact Rn.if2f 60 rfl rfl (nI_nlt (by omega) (by omega)) k
    have dm : ∀ {w : Wd} {r0 : Rs}, Mt w c nr ti o sp dy wf → Rn none 19 jM_ahead (20, [some (vR (sg 13)), some (vI (nI n)), some (vI y)], [], w) r0 → Cl 20 jM_ahead [vR (sg 13), vI (nI n), vI y] w r0 := by
      intro w r0 hM k
      refine cm hM ?_
      refine Rn.cs 60 rfl rfl rfl rfl (m_yes (n := 60) (by decide) (by omega)) (by decide) ?_
      exact Rn.if1f 60 rfl rfl (by dsimp only [tm_c2P]; decide) k
    rcases pk_or (x := y) (n := 3) (by omega) with h1 | ⟨k, hk, rfl⟩
    · refine op_same hi (v := -(nI 1000001)) (dx ?_) (dm hM ?_)
      · refine Rn.if1 60 rfl rfl (fun _ => Rn.ir 60 rfl rfl rfl rfl) (fun h2 => ?_)
        refine Rn.if2f 60 rfl rfl (Int32.not_le.mpr (nI_lt1 (n := 2) (by decide) (h1.resolve_left h2))) ?_
        exact Rn.ir 60 rfl rfl rfl rfl
      · refine Rn.cs 60 rfl rfl rfl rfl (m_no (n := 2) (by decide) h1) (by decide) ?_
        refine Rn.if1f 60 rfl rfl (by dsimp only [tm_c2P]; decide) ?_
        exact Rn.ir 60 rfl rfl rfl rfl
    obtain ⟨w1, f1, f2, f3, f4⟩ := sp_behind hc (TwnI.now hci) hok.2.1 (n := n) (by omega)
    have hM1 := hM.seer (FrR.o4 f2)
    obtain ⟨w2, b1, b2, b3⟩ := m_begin hc hM1.1 hM1.2
    have hM2 := hM1.mfr b2
    obtain ⟨w3, d1, d2, d3, d4⟩ := m_dawnMany hc hM2.pl b3 hok.2.1 (n := n) (by omega)
    have hM3 := hM2.mfr d2
    have o8 := f4.2.2.1
    have hi3 := (hi.seer (FrR.o4 f2)).mfr (b2.tr d2)
    have ex : ∀ {r0 : Rs}, Rn none 19 jX_ahead (48, [some (vR (sg 0)), some (vI (nI n)), some (vI (nI k)), some (vR (cit 4 0))], [], w1) r0 → Cl 20 jX_ahead [vR (sg 0), vI (nI n), vI (nI k)] w r0 := by
      intro r0 kk
      refine dx ?_
      refine Rn.if1f 60 rfl rfl (nI_pos (by omega)) ?_
      refine Rn.if2t 60 rfl rfl (nI_le (by omega) (by decide)) ?_
      refine Rn.cv 60 rfl rfl rfl rfl rfl f1 (by decide) ?_
      exact Rn.at 1 rfl kk
    have em : ∀ {r0 : Rs}, Rn none 19 jM_ahead (41, [some (vR (sg 13)), some (vI (nI n)), some (vI (nI k))], [], w3) r0 → Cl 20 jM_ahead [vR (sg 13), vI (nI n), vI (nI k)] w1 r0 := by
      intro r0 kk
      refine dm hM1 ?_
      refine Rn.cs 60 rfl rfl rfl rfl (m_yes (n := 2) (by decide) (by omega)) (by decide) ?_
      refine Rn.if1t 60 rfl rfl (by dsimp only [tm_c2P]; decide) ?_
      refine Rn.cv 60 rfl rfl rfl rfl rfl b1 (by decide) ?_
      exact Rn.cv 60 rfl rfl rfl rfl rfl d1 (by decide) kk
    rcases (by omega : k = 0 ∨ k = 1 ∨ k = 2) with rfl | rfl | rfl
    · refine ⟨w1, w3, _, ex (r0 := (some (vI (nI (daI c nr ti wf n (o, sp)).1)), w1)) ?_, em ?_, hi3⟩
      · refine Rn.lsw 60 (t := 76) rfl rfl rfl ?_
        refine Rn.ir 60 rfl rfl rfl ?_
        rw [f3.2.1.2.2.1]
      · refine Rn.if1f 60 rfl rfl (by dsimp only [tm_c2P]; decide) ?_
        refine Rn.ir 60 rfl rfl rfl ?_
        rw [d3.1]
    · refine ⟨w1, w3, _, ex (r0 := (some (vI (nI (bs (wd c (daI c nr ti wf n (o, sp)).1) (c 4)))), w1)) ?_, em ?_, hi3⟩
      · refine Rn.lsw 60 (t := 81) rfl rfl rfl ?_
        refine Rn.cv 60 rfl rfl rfl rfl rfl (sp_walledIn hc f3.1 f3.2.1.2.2.1 o8) (by decide) ?_
        exact Rn.ir 60 rfl rfl rfl rfl
      · refine Rn.if1t 60 rfl rfl (by dsimp only [tm_c2P]; decide) ?_
        refine Rn.if2f 60 rfl rfl (by dsimp only [tm_c2P]; decide) ?_
        have hw := m_walledBy hc hM3.pl o8
        rw [← d3.1] at hw
        refine Rn.cv 60 rfl rfl rfl rfl rfl hw (by decide) ?_
        exact Rn.ir 60 rfl rfl rfl rfl
    · refine ⟨w1, w3, _, ex (r0 := (some (vI (nI (bs (gl c (daI c nr ti wf n (o, sp)).1) (c 4)))), w1)) ?_, em ?_, hi3⟩
      · refine Rn.lsw 60 (t := 86) rfl rfl rfl ?_
        refine Rn.cv 60 rfl rfl rfl rfl rfl (sp_glad hc f3.1 f3.2.1.2.2.1 o8) (by decide) ?_
        exact Rn.ir 60 rfl rfl rfl rfl
      · refine Rn.if1t 60 rfl rfl (by dsimp only [tm_c2P]; decide) ?_
        refine Rn.if2t 60 rfl rfl (by dsimp only [tm_c2P]; decide) ?_
        have hw := m_gladBy hc hM3.pl o8
        rw [← d3.1] at hw
        refine Rn.cv 60 rfl rfl rfl rfl rfl hw (by decide) ?_
        exact Rn.ir 60 rfl rfl rfl rfl
  · refine op_same hi (v := -(nI 1000002)) ?_ ?_
    · refine Cl.of rfl rfl rfl (lc := [some (vR (sg 0)), some (vI x), some (vI y), none]) rfl ?_
      refine Rn.cv 60 rfl rfl rfl rfl rfl (x_there hc hci) (by decide) ?_
      rw [decide_eq_false h0]
      refine Rn.if1f 60 rfl rfl (by dsimp only [tm_c2P]; decide) ?_
      exact Rn.ir 60 rfl rfl rfl rfl
    · refine Cl.of rfl rfl rfl (lc := [some (vR (sg 13)), some (vI x), some (vI y)]) rfl ?_
      refine Rn.cv 60 rfl rfl rfl rfl rfl (m_hasCity hc hM.pl) (by decide) ?_
      rw [decide_eq_false h0]
      refine Rn.if1f 60 rfl rfl (by dsimp only [tm_c2P]; decide) ?_
      exact Rn.ir 60 rfl rfl rfl rfl
theorem feN_lt {t : Nat → Bool} : ∀ n s a f, feN t n s a = some f → (∀ f, a = some f → f < s + n) → f < s + n
  | 0, s, a, f, h, ha => ha f h
  | n + 1, s, a, f, h, ha => by
    unfold feN at h
    have := feN_lt n (s + 1) _ f h (fun f hf => by
      split at hf
      · cases hf
        omega
      · have := ha f hf
        omega)
    omega
theorem op_won {x y z : Int32} : Op jX_won jM_won [vI x, vI y, vI z] := by
  intro w hi
  obtain ⟨hb, c, nr, ti, o, sp, dy, wf, hok, hci, hma, hact⟩ := id hi.2.2.2.2.2
  have hM : Mt w c nr ti o sp dy wf := ⟨hb, hma⟩
  have hc := hok.1
  have hc3 := hc.2.1
  have hc4 := hc.2.2.1
  have hp4 : 2 ^ c 4 ≤ 32 := Nat.pow_le_pow_right (n := 2) (by decide) hc4
  have x3 : w (cit 0 0) 3 = nI (c 3) := hci.1.2.1
  rcases pk_or (x := x) (n := c 3) (by omega) with h1 | ⟨g, hg, rfl⟩
  · refine op_same hi (v := -(nI 1000001)) ?_ ?_
    · refine Cl.of rfl rfl rfl (lc := [some (vR (sg 0)), some (vI x), some (vI y), some (vI z)]) rfl ?_
      refine Rn.cs 60 rfl rfl rfl rfl (by rw [x3]; exact x_no (by omega) h1) (by decide) ?_
      refine Rn.if1t 60 rfl rfl (by dsimp only [tm_c2P]; decide) ?_
      exact Rn.ir 60 rfl rfl rfl rfl
    · refine Cl.of rfl rfl rfl (lc := [some (vR (sg 13)), some (vI x), some (vI y), some (vI z)]) rfl ?_
      refine Rn.cv 60 rfl rfl rfl rfl rfl (m_gno hc hM.pl h1) (by decide) ?_
      refine Rn.if1t 60 rfl rfl (by dsimp only [tm_c2P]; decide) ?_
      exact Rn.ir 60 rfl rfl rfl rfl
  have cx : ∀ {r0 : Rs}, Rn none 19 jX_won (14, [some (vR (sg 0)), some (vI (nI g)), some (vI y), some (vI z)], [], w) r0 → Cl 20 jX_won [vR (sg 0), vI (nI g), vI y, vI z] w r0 := by
    intro r0 k
    refine Cl.of rfl rfl rfl (lc := [some (vR (sg 0)), some (vI (nI g)), some (vI y), some (vI z)]) rfl ?_
    refine Rn.cs 60 rfl rfl rfl rfl (by rw [x3]; exact x_yes (by omega) hg) (by decide) ?_
    exact Rn.if1f 60 rfl rfl (by dsimp only [tm_c2P]; decide) k
  have cm : ∀ {w : Wd} {r0 : Rs}, Mt w c nr ti o sp dy wf → Rn none 19 jM_won (8, [some (vR (sg 13)), some (vI (nI g)), some (vI y), some (vI z)], [], w) r0 → Cl 20 jM_won [vR (sg 13), vI (nI g), vI y, vI z] w r0 := by
    intro w r0 hM k
    refine Cl.of rfl rfl rfl (lc := [some (vR (sg 13)), some (vI (nI g)), some (vI y), some (vI z)]) rfl ?_
    refine Rn.cv 60 rfl rfl rfl rfl rfl (m_gyes hc hM.pl hg) (by decide) ?_
    exact Rn.if1f 60 rfl rfl (by dsimp only [tm_c2P]; decide) k
  rcases pk_or (x := y) (n := 2) (by omega) with h1 | ⟨i, hin, rfl⟩
  · refine op_same hi (v := -(nI 1000001)) (cx ?_) (cm hM ?_)
    · refine Rn.if1 60 rfl rfl (fun _ => Rn.ir 60 rfl rfl rfl rfl) (fun h2 => ?_)
      refine Rn.if2t 60 rfl rfl (nI_lt1 (n := 1) (by decide) (h1.resolve_left h2)) ?_
      exact Rn.ir 60 rfl rfl rfl rfl
    · refine Rn.cs 60 rfl rfl rfl rfl (m_no (n := 1) (by decide) h1) (by decide) ?_
      refine Rn.if1t 60 rfl rfl (by dsimp only [tm_c2P]; decide) ?_
      exact Rn.ir 60 rfl rfl rfl rfl
  obtain ⟨b, hbi⟩ : ∃ b, nI i = bI b := by
    rcases (by omega : i = 0 ∨ i = 1) with rfl | rfl
    · exact ⟨false, rfl⟩
    · exact ⟨true, rfl⟩
  have dx : ∀ {r0 : Rs}, Rn none 19 jX_won (23, [some (vR (sg 0)), some (vI (nI g)), some (vI (bI b)), some (vI z)], [], w) r0 → Cl 20 jX_won [vR (sg 0), vI (nI g), vI (nI i), vI z] w r0 := by
    intro r0 k
    rw [← hbi] at k
    refine cx ?_
    refine Rn.if1f 60 rfl rfl (nI_pos (by omega)) ?_
    exact Rn.if2f 60 rfl rfl (nI_nlt (by omega) (by omega)) k
  have dm : ∀ {w : Wd} {r0 : Rs}, Mt w c nr ti o sp dy wf → Rn none 19 jM_won (17, [some (vR (sg 13)), some (vI (nI g)), some (vI (bI b)), some (vI z)], [], w) r0 → Cl 20 jM_won [vR (sg 13), vI (nI g), vI (nI i), vI z] w r0 := by
    intro w r0 hM k
    rw [← hbi] at k
    refine cm hM ?_
    refine Rn.cs 60 rfl rfl rfl rfl (m_yes (n := 1) (by decide) (by omega)) (by decide) ?_
    exact Rn.if1f 60 rfl rfl (by dsimp only [tm_c2P]; decide) k
  rcases pk_or (x := z) (n := 2) (by omega) with h1 | ⟨k, hk, rfl⟩
  · refine op_same hi (v := -(nI 1000001)) (dx ?_) (dm hM ?_)
    · refine Rn.if1 60 rfl rfl (fun _ => Rn.ir 60 rfl rfl rfl rfl) (fun h2 => ?_)
      refine Rn.if2f 60 rfl rfl (Int32.not_le.mpr (nI_lt1 (n := 1) (by decide) (h1.resolve_left h2))) ?_
      exact Rn.ir 60 rfl rfl rfl rfl
    · refine Rn.cs 60 rfl rfl rfl rfl (m_no (n := 1) (by decide) h1) (by decide) ?_
      refine Rn.if1t 60 rfl rfl (by dsimp only [tm_c2P]; decide) ?_
      exact Rn.ir 60 rfl rfl rfl rfl
  obtain ⟨w1, f1, f2⟩ := sp_fewest hc (TwnI.now hci) hok.2.1 (n := 1) b hg (by omega)
  have hM1 := hM.seer (FrR.o4 f2)
  obtain ⟨w2, b1, b2⟩ := m_fewest b hc hM1 hok.2.1 hg (n := 1) (by omega) hk
  refine ⟨w1, w2, moS (feN (fun s => soK c nr ti (wfS wf s g b (c 4)) g b 1 (o, sp)) (2 ^ c 4) 0 none) k, dx ?_, dm hM1 ?_, (hi.seer (FrR.o4 f2)).mfr b2⟩
  · refine Rn.if1f 60 rfl rfl (nI_pos (by omega)) ?_
    refine Rn.if2t 60 rfl rfl (nI_le (by omega) (by decide)) ?_
    refine Rn.cv 60 rfl rfl rfl rfl rfl f1 (by decide) ?_
    refine Rn.cs 60 rfl rfl rfl rfl (x_manyOrSet (fun f hf => by have := feN_lt _ _ _ f hf (fun f hf => by cases hf); omega) hk) (by decide) ?_
    exact Rn.ir 60 rfl rfl rfl rfl
  · refine Rn.cs 60 rfl rfl rfl rfl (m_yes (n := 1) (by decide) (by omega)) (by decide) ?_
    refine Rn.if1f 60 rfl rfl (by dsimp only [tm_c2P]; decide) ?_
    refine Rn.cv 60 rfl rfl rfl rfl rfl b1 (by decide) ?_
    exact Rn.ir 60 rfl rfl rfl rfl
theorem pk_or1 {x : Int32} {n : Nat} (hn : n + 1 < 2 ^ 31) : (x < nI 1 ∨ nI n < x) ∨ ∃ j, 1 ≤ j ∧ j ≤ n ∧ x = nI j := by
  rcases pk_or (x := x) (n := n + 1) hn with (h | h) | ⟨j, h1, rfl⟩
  · exact Or.inl (Or.inl (Int32.lt_trans h (by decide)))
  · exact Or.inl (Or.inr (nI_lt1 hn h))
  · rcases Nat.eq_zero_or_pos j with h0 | h0
    · subst h0
      exact Or.inl (Or.inl (by decide))
    · exact Or.inr ⟨j, h0, by omega, rfl⟩
theorem m_no1 {w : Wd} {x y z : Int32} (h : x < y ∨ z < x) : Cl 1 jM_in [vI x, vI y, vI z] w (some (vI (bI false)), w) := by
  have k := m_in (w := w) (x := x) (y := y) (z := z)
  rcases h with h | h
  · rw [decide_eq_false (Int32.not_le.mpr h)] at k
    exact k
  · rw [decide_eq_false (Int32.not_le.mpr h), Bool.and_false] at k
    exact k
theorem m_yes1 {w : Wd} {j n m : Nat} (hn : n < 2 ^ 31) (h : j ≤ n) (h1 : m ≤ j) : Cl 1 jM_in [vI (nI j), vI (nI m), vI (nI n)] w (some (vI (bI true)), w) := by
  have k := m_in (w := w) (x := nI j) (y := nI m) (z := nI n)
  rw [decide_eq_true (nI_le h1 (by omega)), decide_eq_true (nI_le h hn)] at k
  exact k
theorem op_kept {x y z : Int32} : Op jX_kept jM_kept [vI x, vI y, vI z] := by
  intro w hi
  obtain ⟨hb, c, nr, ti, o, sp, dy, wf, hok, hci, hma, hact⟩ := id hi.2.2.2.2.2
  have hM : Mt w c nr ti o sp dy wf := ⟨hb, hma⟩
  have hc := hok.1
  have hc3 := hc.2.1
  have hc4 := hc.2.2.1
  have hp4 : 2 ^ c 4 ≤ 32 := Nat.pow_le_pow_right (n := 2) (by decide) hc4
  have x3 : w (cit 0 0) 3 = nI (c 3) := hci.1.2.1
  rcases pk_or (x := x) (n := c 3) (by omega) with h1 | ⟨g, hg, rfl⟩
  · refine op_same hi (v := -(nI 1000001)) ?_ ?_
    · refine Cl.of rfl rfl rfl (lc := [some (vR (sg 0)), some (vI x), some (vI y), some (vI z)]) rfl ?_
      refine Rn.cs 60 rfl rfl rfl rfl (by rw [x3]; exact x_no (by omega) h1) (by decide) ?_
      refine Rn.if1t 60 rfl rfl (by dsimp only [tm_c2P]; decide) ?_
      exact Rn.ir 60 rfl rfl rfl rfl
    · refine Cl.of rfl rfl rfl (lc := [some (vR (sg 13)), some (vI x), some (vI y), some (vI z)]) rfl ?_
      refine Rn.cv 60 rfl rfl rfl rfl rfl (m_gno hc hM.pl h1) (by decide) ?_
      refine Rn.if1t 60 rfl rfl (by dsimp only [tm_c2P]; decide) ?_
      exact Rn.ir 60 rfl rfl rfl rfl
  have cx : ∀ {r0 : Rs}, Rn none 19 jX_kept (14, [some (vR (sg 0)), some (vI (nI g)), some (vI y), some (vI z)], [], w) r0 → Cl 20 jX_kept [vR (sg 0), vI (nI g), vI y, vI z] w r0 := by
    intro r0 k
    refine Cl.of rfl rfl rfl (lc := [some (vR (sg 0)), some (vI (nI g)), some (vI y), some (vI z)]) rfl ?_
    refine Rn.cs 60 rfl rfl rfl rfl (by rw [x3]; exact x_yes (by omega) hg) (by decide) ?_
    exact Rn.if1f 60 rfl rfl (by dsimp only [tm_c2P]; decide) k
  have cm : ∀ {w : Wd} {r0 : Rs}, Mt w c nr ti o sp dy wf → Rn none 19 jM_kept (8, [some (vR (sg 13)), some (vI (nI g)), some (vI y), some (vI z)], [], w) r0 → Cl 20 jM_kept [vR (sg 13), vI (nI g), vI y, vI z] w r0 := by
    intro w r0 hM k
    refine Cl.of rfl rfl rfl (lc := [some (vR (sg 13)), some (vI (nI g)), some (vI y), some (vI z)]) rfl ?_
    refine Rn.cv 60 rfl rfl rfl rfl rfl (m_gyes hc hM.pl hg) (by decide) ?_
    exact Rn.if1f 60 rfl rfl (by dsimp only [tm_c2P]; decide) k
  rcases pk_or1 (x := y) (n := 10) (by omega) with h1 | ⟨n, n1, n10, rfl⟩
  · refine op_same hi (v := -(nI 1000001)) (cx ?_) (cm hM ?_)
    · refine Rn.if2 60 rfl rfl (fun _ => Rn.ir 60 rfl rfl rfl rfl) (fun h2 => ?_)
      refine Rn.if2t 60 rfl rfl (h1.resolve_left h2) ?_
      exact Rn.ir 60 rfl rfl rfl rfl
    · refine Rn.cs 60 rfl rfl rfl rfl (m_no1 h1) (by decide) ?_
      refine Rn.if1t 60 rfl rfl (by dsimp only [tm_c2P]; decide) ?_
      exact Rn.ir 60 rfl rfl rfl rfl
  have dx : ∀ {r0 : Rs}, Rn none 19 jX_kept (25, [some (vR (sg 0)), some (vI (nI g)), some (vI (nI n)), some (vI z)], [], w) r0 → Cl 20 jX_kept [vR (sg 0), vI (nI g), vI (nI n), vI z] w r0 := by
    intro r0 k
    refine cx ?_
    refine Rn.if2f 60 rfl rfl (nI_nlt n1 (by omega)) ?_
    exact Rn.if2f 60 rfl rfl (nI_nlt (by omega) (by omega)) k
  have dm : ∀ {w : Wd} {r0 : Rs}, Mt w c nr ti o sp dy wf → Rn none 19 jM_kept (18, [some (vR (sg 13)), some (vI (nI g)), some (vI (nI n)), some (vI z)], [], w) r0 → Cl 20 jM_kept [vR (sg 13), vI (nI g), vI (nI n), vI z] w r0 := by
    intro w r0 hM k
    refine cm hM ?_
    refine Rn.cs 60 rfl rfl rfl rfl (m_yes1 (n := 10) (by decide) (by omega) n1) (by decide) ?_
    exact Rn.if1f 60 rfl rfl (by dsimp only [tm_c2P]; decide) k
  rcases pk_or (x := z) (n := 2) (by omega) with h1 | ⟨k, hk, rfl⟩
  · refine op_same hi (v := -(nI 1000001)) (dx ?_) (dm hM ?_)
    · refine Rn.if1 60 rfl rfl (fun _ => Rn.ir 60 rfl rfl rfl rfl) (fun h2 => ?_)
      refine Rn.if2f 60 rfl rfl (Int32.not_le.mpr (nI_lt1 (n := 1) (by decide) (h1.resolve_left h2))) ?_
      exact Rn.ir 60 rfl rfl rfl rfl
    · refine Rn.cs 60 rfl rfl rfl rfl (m_no (n := 1) (by decide) h1) (by decide) ?_
      refine Rn.if1t 60 rfl rfl (by dsimp only [tm_c2P]; decide) ?_
      exact Rn.ir 60 rfl rfl rfl rfl
  obtain ⟨w1, f1, f2⟩ := sp_fewest hc (TwnI.now hci) hok.2.1 (n := n) true hg (by omega)
  have hM1 := hM.seer (FrR.o4 f2)
  obtain ⟨w2, b1, b2⟩ := m_fewest true hc hM1 hok.2.1 hg (n := n) (by omega) hk
  refine ⟨w1, w2, moS (feN (fun s => soK c nr ti (wfS wf s g true (c 4)) g true n (o, sp)) (2 ^ c 4) 0 none) k, dx ?_, dm hM1 ?_, (hi.seer (FrR.o4 f2)).mfr b2⟩
  · refine Rn.if1f 60 rfl rfl (nI_pos (by omega)) ?_
    refine Rn.if2t 60 rfl rfl (nI_le (by omega) (by decide)) ?_
    refine Rn.cv 60 rfl rfl rfl rfl rfl f1 (by decide) ?_
    refine Rn.cs 60 rfl rfl rfl rfl (x_manyOrSet (fun f hf => by have := feN_lt _ _ _ f hf (fun f hf => by cases hf); omega) hk) (by decide) ?_
    exact Rn.ir 60 rfl rfl rfl rfl
  · refine Rn.cs 60 rfl rfl rfl rfl (m_yes (n := 1) (by decide) (by omega)) (by decide) ?_
    refine Rn.if1f 60 rfl rfl (by dsimp only [tm_c2P]; decide) ?_
    refine Rn.cv 60 rfl rfl rfl rfl rfl b1 (by decide) ?_
    exact Rn.ir 60 rfl rfl rfl rfl
end
section
/-! swap, best, laws, sold -/
theorem bsN_bit {f : Nat → Bool} : ∀ n p s i, (bsN f n p s).testBit i = (s.testBit i || (decide (p ≤ i) && decide (i < p + n) && f i))
  | 0, p, s, i => by
    unfold bsN
    by_cases h1 : p ≤ i
    · rw [decide_eq_false (show ¬ i < p + 0 by omega)]
      simp
    · rw [decide_eq_false h1]
      simp
  | n + 1, p, s, i => by
    unfold bsN
    rw [bsN_bit n (p + 1), Nat.testBit_or]
    by_cases e : i = p
    · subst e
      rw [decide_eq_false (show ¬ i + 1 ≤ i by omega), decide_eq_true (Nat.le_refl i), decide_eq_true (show i < i + (n + 1) by omega)]
      cases f i
      · simp
      · simp [Nat.testBit_two_pow_self]
    · have h2 : (bif f p then 2 ^ p else 0 : Nat).testBit i = false := by
        cases f p
        · exact Nat.zero_testBit i
        · exact Nat.testBit_two_pow_of_ne (fun z => e z.symm)
      rw [h2, Bool.or_false, show decide (p + 1 ≤ i) = decide (p ≤ i) from decide_eq_decide.mpr (by omega), show decide (i < p + 1 + n) = decide (i < p + (n + 1)) from decide_eq_decide.mpr (by omega)]
theorem bs_bit {f : Nat → Bool} {n i : Nat} (h : i < n) : (bs f n).testBit i = f i := by
  unfold bs
  rw [bsN_bit, Nat.zero_testBit, decide_eq_true (Nat.zero_le i), decide_eq_true (show i < 0 + n by omega)]
  simp
theorem m_areGlad {w : Wd} {c : Nat → Nat} {nr ti o sp a b : Nat} {wf : Nat → Nat} (hc : PlOk c) (h : MPl w c) (hk : MWk w c nr ti o sp wf) (hd : DyOk c nr ti o sp wf) (ha : a < c 4) (hb : b < c 4) : ∃ w', Cl 7 jM_areGlad [vR (sg 13), vI (nI a), vI (nI b)] w (some (vI (bI (agl c (da c nr ti wf (o, sp)).1 a b))), w') ∧ MFr w w' := by
  have hc4 := hc.2.2.1
  obtain ⟨w1, b1, b2, b3⟩ := m_dawns hc h hk hd
  have hd1 := hd.da hc
  have o8 := hd1.2.2.1
  refine ⟨w1, ?_, b2⟩
  have hg := m_gladBy hc (h.mfr b2) o8
  rw [← b3.1] at hg
  have hl : bs (gl c (da c nr ti wf (o, sp)).1) (c 4) < 256 := by
    have := bs_lt (f := gl c (da c nr ti wf (o, sp)).1) hc4
    omega
  refine Cl.of rfl rfl rfl (lc := [some (vR (sg 13)), some (vI (nI a)), some (vI (nI b)), none]) rfl ?_
  refine Rn.cv 60 rfl rfl rfl rfl rfl b1 (by decide) ?_
  refine Rn.cv 60 rfl rfl rfl rfl rfl hg (by decide) ?_
  unfold agl
  cases ea : gl c (da c nr ti wf (o, sp)).1 a with
  | false =>
    refine Rn.if2t 60 rfl rfl (by dsimp only [tm_c2P]; rw [nJ_bit (by omega) (by omega), bI_eq1, bs_bit ha, ea]; exact fun z => by cases z) ?_
    exact Rn.zr 60 rfl rfl rfl (by decide) rfl
  | true =>
    refine Rn.if2f 60 rfl rfl (by dsimp only [tm_c2P]; rw [nJ_bit (by omega) (by omega), bI_eq1, bs_bit ha, ea]; exact fun z => z rfl) ?_
    cases eb : gl c (da c nr ti wf (o, sp)).1 b with
    | false =>
      refine Rn.if2t 60 rfl rfl (by dsimp only [tm_c2P]; rw [nJ_bit (by omega) (by omega), bI_eq1, bs_bit hb, eb]; exact fun z => by cases z) ?_
      exact Rn.zr 60 rfl rfl rfl (by decide) rfl
    | true =>
      refine Rn.if2f 60 rfl rfl (by dsimp only [tm_c2P]; rw [nJ_bit (by omega) (by omega), bI_eq1, bs_bit hb, eb]; exact fun z => z rfl) ?_
      exact Rn.zr 60 rfl rfl rfl (by decide) rfl
theorem nJ_pick : ∀ g, g < 8 → ∀ f, f < 256 → nI f &&& nI (2 ^ g) = nI (bif f.testBit g then 2 ^ g else 0) := by decide +kernel
theorem nJ_flip : ∀ g, g < 8 → ∀ f, f < 256 → nI f ^^^ nI (2 ^ g) = nI (sbN f g (!f.testBit g)) := by decide +kernel
theorem nJ_swap {f h g : Nat} (hf : f < 256) (hh : h < 256) (hg : g < 8) : nI f &&& (nI 1 <<< (nI g &&& 31) ^^^ -(nI 1)) ||| nI h &&& (nI 1 <<< (nI g &&& 31)) = nI (sbN f g (h.testBit g)) := by
  rw [nJ_1shl (by omega), nJ_clr g hg _ hf, nJ_pick g hg _ hh, nJ_or]
  rfl
theorem MWk.up {w : Wd} {c : Nat → Nat} {nr ti o sp p v : Nat} {wf : Nat → Nat} (h : MWk w c nr ti o sp wf) : MWk (wset w (sg 21) p (nI v)) c nr ti o sp (upW wf p v) := by
  refine ⟨by rw [wset_ne (by decide)]; exact h.1, by rw [wset_ne (by decide)]; exact h.2.1, by rw [wset_ne (by decide)]; exact h.2.2.1, by rw [wset_ne (by decide)]; exact h.2.2.2.1, fun q hq => ?_⟩
  unfold upW
  by_cases e : q = p
  · subst e
    rw [wset_s, if_pos rfl]
  · rw [wset_k e, if_neg e]
    exact h.2.2.2.2 q hq
theorem DyOk.up {c : Nat → Nat} {nr ti o sp p v : Nat} {wf : Nat → Nat} (h : DyOk c nr ti o sp wf) (hv : v < 256) : DyOk c nr ti o sp (upW wf p v) := ⟨h.1, h.2.1, h.2.2.1, h.2.2.2.1, fun q hq => by
  unfold upW
  split
  · exact hv
  · exact h.2.2.2.2 q hq⟩
theorem op_swap {x y : Int32} : Op jX_swap jM_swap [vI x, vI y] := by
  intro w hi
  obtain ⟨hb, c, nr, ti, o, sp, dy, wf, hok, hci, hma, hact⟩ := id hi.2.2.2.2.2
  have hM : Mt w c nr ti o sp dy wf := ⟨hb, hma⟩
  have hc := hok.1
  have hd := hok.2.1
  have hc3 := hc.2.1
  have hc4 := hc.2.2.1
  have x4 : w (cit 0 0) 4 = nI (c 4) := hci.1.2.2.1
  rcases pk_or (x := x) (n := c 4) (by omega) with h1 | ⟨a, ha, rfl⟩
  · refine op_same hi (v := -(nI 1000001)) ?_ ?_
    · refine Cl.of rfl rfl rfl (lc := [some (vR (sg 0)), some (vI x), some (vI y)]) rfl ?_
      refine Rn.cs 60 rfl rfl rfl rfl (by rw [x4]; exact x_no (by omega) h1) (by decide) ?_
      refine Rn.if1t 60 rfl rfl (by dsimp only [tm_c2P]; decide) ?_
      exact Rn.ir 60 rfl rfl rfl rfl
    · refine Cl.of rfl rfl rfl (lc := [some (vR (sg 13)), some (vI x), some (vI y), none, none, none, none]) rfl ?_
      refine Rn.cv 60 rfl rfl rfl rfl rfl (m_pno hc hM.pl h1) (by decide) ?_
      refine Rn.if1t 60 rfl rfl (by dsimp only [tm_c2P]; decide) ?_
      exact Rn.ir 60 rfl rfl rfl rfl
  have cx : ∀ {r0 : Rs}, Rn none 19 jX_swap (14, [some (vR (sg 0)), some (vI (nI a)), some (vI y)], [], w) r0 → Cl 20 jX_swap [vR (sg 0), vI (nI a), vI y] w r0 := by
    intro r0 k
    refine Cl.of rfl rfl rfl (lc := [some (vR (sg 0)), some (vI (nI a)), some (vI y)]) rfl ?_
    refine Rn.cs 60 rfl rfl rfl rfl (by rw [x4]; exact x_yes (by omega) ha) (by decide) ?_
    exact Rn.if1f 60 rfl rfl (by dsimp only [tm_c2P]; decide) k
  have cm : ∀ {w : Wd} {r0 : Rs}, Mt w c nr ti o sp dy wf → Rn none 19 jM_swap (8, [some (vR (sg 13)), some (vI (nI a)), some (vI y), none, none, none, none], [], w) r0 → Cl 20 jM_swap [vR (sg 13), vI (nI a), vI y] w r0 := by
    intro w r0 hM k
    refine Cl.of rfl rfl rfl (lc := [some (vR (sg 13)), some (vI (nI a)), some (vI y), none, none, none, none]) rfl ?_
    refine Rn.cv 60 rfl rfl rfl rfl rfl (m_pyes hc hM.pl ha) (by decide) ?_
    exact Rn.if1f 60 rfl rfl (by dsimp only [tm_c2P]; decide) k
  rcases pk_or (x := y) (n := c 4) (by omega) with h1 | ⟨b, hb', rfl⟩
  · refine op_same hi (v := -(nI 1000001)) (cx ?_) (cm hM ?_)
    · refine Rn.cs 60 rfl rfl rfl rfl (by rw [x4]; exact x_no (by omega) h1) (by decide) ?_
      refine Rn.if1t 60 rfl rfl (by dsimp only [tm_c2P]; decide) ?_
      exact Rn.ir 60 rfl rfl rfl rfl
    · refine Rn.cv 60 rfl rfl rfl rfl rfl (m_pno hc hM.pl h1) (by decide) ?_
      refine Rn.if1t 60 rfl rfl (by dsimp only [tm_c2P]; decide) ?_
      exact Rn.ir 60 rfl rfl rfl rfl
  have dx : ∀ {r0 : Rs}, Rn none 19 jX_swap (28, [some (vR (sg 0)), some (vI (nI a)), some (vI (nI b))], [], w) r0 → Cl 20 jX_swap [vR (sg 0), vI (nI a), vI (nI b)] w r0 := by
    intro r0 k
    refine cx ?_
    refine Rn.cs 60 rfl rfl rfl rfl (by rw [x4]; exact x_yes (by omega) hb') (by decide) ?_
    exact Rn.if1f 60 rfl rfl (by dsimp only [tm_c2P]; decide) k
  have dm : ∀ {w : Wd} {r0 : Rs}, Mt w c nr ti o sp dy wf → Rn none 19 jM_swap (16, [some (vR (sg 13)), some (vI (nI a)), some (vI (nI b)), none, none, none, none], [], w) r0 → Cl 20 jM_swap [vR (sg 13), vI (nI a), vI (nI b)] w r0 := by
    intro w r0 hM k
    refine cm hM ?_
    refine Rn.cv 60 rfl rfl rfl rfl rfl (m_pyes hc hM.pl hb') (by decide) ?_
    exact Rn.if1f 60 rfl rfl (by dsimp only [tm_c2P]; decide) k
  by_cases hab : a = b
  · refine op_same hi (v := -(nI 1000001)) (dx ?_) (dm hM ?_)
    · refine Rn.if2f 60 rfl rfl (by dsimp only [tm_c2P]; rw [hab]; exact fun z => z rfl) ?_
      exact Rn.ir 60 rfl rfl rfl rfl
    · refine Rn.if2f 60 rfl rfl (by dsimp only [tm_c2P]; rw [hab]; exact fun z => z rfl) ?_
      exact Rn.ir 60 rfl rfl rfl rfl
  obtain ⟨w1, f1, f2⟩ := sp_firstSwap hc (TwnI.now hci) hd ha hb' hab
  have hM1 := hM.seer (FrR.o4 f2)
  obtain ⟨w2, b1, b2, b3⟩ := m_begin hc hM1.1 hM1.2
  obtain ⟨w3, d1, d2⟩ := m_areGlad hc (hM1.mfr b2).pl b3 hd ha hb'
  have wa8 := hd.2.2.2.2 a ha
  have wb8 := hd.2.2.2.2 b hb'
  have inner : ∀ one, one < c 3 → ∀ m two w4 x5 x6, two + m = c 3 → MFr w1 w4 → ∃ w5, MFr w1 w5 ∧ match swJ (swh c nr ti wf (o, sp) a b) one m two with
    | some v => Rn none 19 jM_swap (54, [some (vR (sg 13)), some (vI (nI a)), some (vI (nI b)), some (vI (nI one)), some (vI (nI two)), x5, x6], [], w4) (some (vI (nI v)), w5)
    | none => ∃ x5' x6', ∀ r, Rn none 19 jM_swap (157, [some (vR (sg 13)), some (vI (nI a)), some (vI (nI b)), some (vI (nI one)), some (vI (nI (c 3))), x5', x6'], [], w5) r → Rn none 19 jM_swap (54, [some (vR (sg 13)), some (vI (nI a)), some (vI (nI b)), some (vI (nI one)), some (vI (nI two)), x5, x6], [], w4) r := by
    intro one h1 m
    induction m with
    | zero =>
      intro two w4 x5 x6 ht f
      obtain rfl : two = c 3 := by omega
      refine ⟨w4, f, ?_⟩
      unfold swJ
      refine ⟨x5, x6, fun r k => ?_⟩
      refine Rn.cv 60 rfl rfl rfl rfl rfl (m_G (hM1.mfr f).pl) (by decide) ?_
      exact Rn.if2t 60 rfl rfl (nI_le (Nat.le_refl _) (by omega)) k
    | succ m ih =>
      intro two w4 x5 x6 ht f
      have h2 : two < c 3 := by omega
      have head : ∀ r, Rn none 19 jM_swap (64, [some (vR (sg 13)), some (vI (nI a)), some (vI (nI b)), some (vI (nI one)), some (vI (nI two)), x5, x6], [], w4) r → Rn none 19 jM_swap (54, [some (vR (sg 13)), some (vI (nI a)), some (vI (nI b)), some (vI (nI one)), some (vI (nI two)), x5, x6], [], w4) r := by
        intro r k
        refine Rn.cv 60 rfl rfl rfl rfl rfl (m_G (hM1.mfr f).pl) (by decide) ?_
        exact Rn.if2f 60 rfl rfl (nI_ge h2 (by omega)) k
      by_cases e : one = two
      · obtain ⟨w5, g1, g2⟩ := ih (two + 1) w4 x5 x6 (by omega) f
        refine ⟨w5, g1, ?_⟩
        rw [show swJ (swh c nr ti wf (o, sp) a b) one (m + 1) two = swJ (swh c nr ti wf (o, sp) a b) one m (two + 1) from by rw [swJ, if_neg (fun z => z.1 e)]]
        have step : ∀ r, Rn none 19 jM_swap (54, [some (vR (sg 13)), some (vI (nI a)), some (vI (nI b)), some (vI (nI one)), some (vI (nI (two + 1))), x5, x6], [], w4) r → Rn none 19 jM_swap (54, [some (vR (sg 13)), some (vI (nI a)), some (vI (nI b)), some (vI (nI one)), some (vI (nI two)), x5, x6], [], w4) r := by
          intro r k
          refine head r ?_
          refine Rn.if2t 60 rfl rfl (by dsimp only [tm_c2P]; rw [e]) ?_
          rw [nI_succ two] at k
          exact Rn.at 2 rfl k
        cases hs : swJ (swh c nr ti wf (o, sp) a b) one m (two + 1) with
        | some v =>
          rw [hs] at g2
          exact step _ g2
        | none =>
          rw [hs] at g2
          obtain ⟨x5', x6', g3⟩ := g2
          exact ⟨x5', x6', fun r k => step r (g3 r k)⟩
      · obtain ⟨w5, i1, i2, i3⟩ := m_begin hc (hM1.mfr f).1 (hM1.mfr f).2
        have k6 := (i3.up (p := a) (v := sbN (wf a) one ((wf b).testBit one))).up (p := b) (v := sbN (wf b) two ((wf a).testBit two))
        have f6 := ((f.tr i2).tr (MFr.wis (j := a) (x := nI (sbN (wf a) one ((wf b).testBit one))))).tr (MFr.wis (j := b) (x := nI (sbN (wf b) two ((wf a).testBit two))))
        have hd6 : DyOk c nr ti o sp (wfX wf a b one two) := (hd.up (sbN_lt wa8 (by omega))).up (sbN_lt wb8 (by omega))
        obtain ⟨w7, j1, j2⟩ := m_areGlad hc (hM1.mfr f6).pl (wf := wfX wf a b one two) k6 hd6 ha hb'
        have step : ∀ r, Rn none 19 jM_swap (140, [some (vR (sg 13)), some (vI (nI a)), some (vI (nI b)), some (vI (nI one)), some (vI (nI two)), some (vI (nI (wf a))), some (vI (nI (wf b)))], [vI (bI (swh c nr ti wf (o, sp) a b one two))], w7) r → Rn none 19 jM_swap (54, [some (vR (sg 13)), some (vI (nI a)), some (vI (nI b)), some (vI (nI one)), some (vI (nI two)), x5, x6], [], w4) r := by
          intro r k
          refine head r ?_
          refine Rn.if2f 60 rfl rfl (by dsimp only [tm_c2P]; rw [nI_eq (by omega) (by omega)]; exact e) ?_
          refine Rn.cv 60 rfl rfl rfl rfl rfl i1 (by decide) ?_
          refine Rn.al 60 rfl rfl rfl rfl (by omega) ?_
          rw [i3.2.2.2.2 a ha]
          refine Rn.al 60 rfl rfl rfl rfl (by omega) ?_
          rw [i3.2.2.2.2 b hb']
          refine Rn.as 60 rfl rfl rfl rfl (by omega) ?_
          dsimp only
          rw [nJ_swap wa8 wb8 (by omega)]
          refine Rn.as 60 rfl rfl rfl rfl (by omega) ?_
          dsimp only
          rw [nJ_swap wb8 wa8 (by omega)]
          exact Rn.cv 60 rfl rfl rfl rfl rfl j1 (by decide) k
        cases hs : swh c nr ti wf (o, sp) a b one two with
        | true =>
          rw [hs] at step
          refine ⟨w7, f6.tr j2, ?_⟩
          rw [show swJ (swh c nr ti wf (o, sp) a b) one (m + 1) two = some (8 * one + two) from by rw [swJ, if_pos ⟨e, hs⟩]]
          refine step _ ?_
          refine Rn.if1f 60 rfl rfl (by dsimp only [tm_c2P]; decide) ?_
          refine Rn.ir 60 rfl rfl rfl ?_
          dsimp only
          rw [pk_mul, nI_add]
        | false =>
          rw [hs] at step
          obtain ⟨w8, g1, g2⟩ := ih (two + 1) w7 (some (vI (nI (wf a)))) (some (vI (nI (wf b)))) (by omega) (f6.tr j2)
          refine ⟨w8, g1, ?_⟩
          rw [show swJ (swh c nr ti wf (o, sp) a b) one (m + 1) two = swJ (swh c nr ti wf (o, sp) a b) one m (two + 1) from by rw [swJ, if_neg (fun z => by rw [hs] at z; cases z.2)]]
          have step2 : ∀ r, Rn none 19 jM_swap (54, [some (vR (sg 13)), some (vI (nI a)), some (vI (nI b)), some (vI (nI one)), some (vI (nI (two + 1))), some (vI (nI (wf a))), some (vI (nI (wf b)))], [], w7) r → Rn none 19 jM_swap (54, [some (vR (sg 13)), some (vI (nI a)), some (vI (nI b)), some (vI (nI one)), some (vI (nI two)), x5, x6], [], w4) r := by
            intro r k
            refine step r ?_
            refine Rn.if1t 60 rfl rfl (by dsimp only [tm_c2P]; decide) ?_
            rw [nI_succ two] at k
            exact Rn.at 2 rfl k
          cases hs2 : swJ (swh c nr ti wf (o, sp) a b) one m (two + 1) with
          | some v =>
            rw [hs2] at g2
            exact step2 _ g2
          | none =>
            rw [hs2] at g2
            obtain ⟨x5', x6', g3⟩ := g2
            exact ⟨x5', x6', fun r k => step2 r (g3 r k)⟩
  have outer : ∀ m one w4 x4 x5 x6, one + m = c 3 → MFr w1 w4 → ∃ w5, MFr w1 w5 ∧ Rn none 19 jM_swap (42, [some (vR (sg 13)), some (vI (nI a)), some (vI (nI b)), some (vI (nI one)), x4, x5, x6], [], w4) (some (vI (feI (swI (swh c nr ti wf (o, sp) a b) (c 3) m one))), w5) := by
    intro m
    induction m with
    | zero =>
      intro one w4 x4 x5 x6 ho f
      obtain rfl : one = c 3 := by omega
      refine ⟨w4, f, ?_⟩
      refine Rn.cv 60 rfl rfl rfl rfl rfl (m_G (hM1.mfr f).pl) (by decide) ?_
      refine Rn.if2t 60 rfl rfl (nI_le (Nat.le_refl _) (by omega)) ?_
      exact Rn.ir 60 rfl rfl rfl rfl
    | succ m ih =>
      intro one w4 x4 x5 x6 ho f
      obtain ⟨w5, g1, g2⟩ := inner one (by omega) (c 3) 0 w4 x5 x6 (by omega) f
      have head : ∀ r, Rn none 19 jM_swap (54, [some (vR (sg 13)), some (vI (nI a)), some (vI (nI b)), some (vI (nI one)), some (vI (nI 0)), x5, x6], [], w4) r → Rn none 19 jM_swap (42, [some (vR (sg 13)), some (vI (nI a)), some (vI (nI b)), some (vI (nI one)), x4, x5, x6], [], w4) r := by
        intro r k
        refine Rn.cv 60 rfl rfl rfl rfl rfl (m_G (hM1.mfr f).pl) (by decide) ?_
        refine Rn.if2f 60 rfl rfl (nI_ge (by omega) (by omega)) ?_
        exact Rn.at 2 rfl k
      cases hs : swJ (swh c nr ti wf (o, sp) a b) one (c 3) 0 with
      | some v =>
        rw [hs] at g2
        refine ⟨w5, g1, head _ ?_⟩
        rw [show swI (swh c nr ti wf (o, sp) a b) (c 3) (m + 1) one = some v from by rw [swI, hs]]
        exact g2
      | none =>
        rw [hs] at g2
        obtain ⟨x5', x6', g3⟩ := g2
        obtain ⟨w6, l1, l2⟩ := ih (one + 1) w5 (some (vI (nI (c 3)))) x5' x6' (by omega) g1
        refine ⟨w6, l1, head _ (g3 _ ?_)⟩
        rw [show swI (swh c nr ti wf (o, sp) a b) (c 3) (m + 1) one = swI (swh c nr ti wf (o, sp) a b) (c 3) m (one + 1) from by rw [swI, hs]]
        rw [nI_succ one] at l2
        exact Rn.at 2 rfl l2
  obtain ⟨w5, l1, l2⟩ := outer (c 3) 0 w3 none none none (by omega) (b2.tr d2)
  have em : ∀ {r0 : Rs}, Rn none 19 jM_swap (34, [some (vR (sg 13)), some (vI (nI a)), some (vI (nI b)), none, none, none, none], [vI (bI (agl c (da c nr ti wf (o, sp)).1 a b))], w3) r0 → Cl 20 jM_swap [vR (sg 13), vI (nI a), vI (nI b)] w1 r0 := by
    intro r0 k
    refine dm hM1 ?_
    refine Rn.if2t 60 rfl rfl (by dsimp only [tm_c2P]; rw [nI_eq (by omega) (by omega)]; exact hab) ?_
    refine Rn.cv 60 rfl rfl rfl rfl rfl b1 (by decide) ?_
    exact Rn.cv 60 rfl rfl rfl rfl rfl d1 (by decide) k
  cases hg : agl c (da c nr ti wf (o, sp)).1 a b with
  | true =>
    rw [hg] at em f1
    refine ⟨w1, w3, -(nI 1000000), dx ?_, em ?_, (hi.seer (FrR.o4 f2)).mfr (b2.tr d2)⟩
    · refine Rn.if2t 60 rfl rfl (by dsimp only [tm_c2P]; rw [nI_eq (by omega) (by omega)]; exact hab) ?_
      refine Rn.cv 60 rfl rfl rfl rfl rfl f1 (by decide) ?_
      exact Rn.ir 60 rfl rfl rfl rfl
    · refine Rn.if1f 60 rfl rfl (by dsimp only [tm_c2P]; decide) ?_
      exact Rn.ir 60 rfl rfl rfl rfl
  | false =>
    rw [hg] at em f1
    refine ⟨w1, w5, feI (swI (swh c nr ti wf (o, sp) a b) (c 3) (c 3) 0), dx ?_, em ?_, (hi.seer (FrR.o4 f2)).mfr l1⟩
    · refine Rn.if2t 60 rfl rfl (by dsimp only [tm_c2P]; rw [nI_eq (by omega) (by omega)]; exact hab) ?_
      refine Rn.cv 60 rfl rfl rfl rfl rfl f1 (by decide) ?_
      exact Rn.ir 60 rfl rfl rfl rfl
    · refine Rn.if1t 60 rfl rfl (by dsimp only [tm_c2P]; decide) ?_
      exact Rn.at 2 rfl l2
theorem agl_self (c : Nat → Nat) (o a : Nat) : agl c o a a = gl c o a := Bool.and_self _
theorem op_best {x : Int32} : Op jX_best jM_best [vI x] := by
  intro w hi
  obtain ⟨hb, c, nr, ti, o, sp, dy, wf, hok, hci, hma, hact⟩ := id hi.2.2.2.2.2
  have hM : Mt w c nr ti o sp dy wf := ⟨hb, hma⟩
  have hc := hok.1
  have hd := hok.2.1
  have hc3 := hc.2.1
  have hc4 := hc.2.2.1
  have hp3 : 2 ^ c 3 ≤ 256 := Nat.pow_le_pow_right (n := 2) (by decide) hc3
  have x4 : w (cit 0 0) 4 = nI (c 4) := hci.1.2.2.1
  rcases pk_or (x := x) (n := c 4) (by omega) with h1 | ⟨a, ha, rfl⟩
  · refine op_same hi (v := -(nI 1000001)) ?_ ?_
    · refine Cl.of rfl rfl rfl (lc := [some (vR (sg 0)), some (vI x)]) rfl ?_
      refine Rn.cs 60 rfl rfl rfl rfl (by rw [x4]; exact x_no (by omega) h1) (by decide) ?_
      refine Rn.if1t 60 rfl rfl (by dsimp only [tm_c2P]; decide) ?_
      exact Rn.ir 60 rfl rfl rfl rfl
    · refine Cl.of rfl rfl rfl (lc := [some (vR (sg 13)), some (vI x), none]) rfl ?_
      refine Rn.cv 60 rfl rfl rfl rfl rfl (m_pno hc hM.pl h1) (by decide) ?_
      refine Rn.if1f 60 rfl rfl (by dsimp only [tm_c2P]; decide) ?_
      exact Rn.ir 60 rfl rfl rfl rfl
  obtain ⟨w1, f1, f2⟩ := sp_leastWish hc (TwnI.now hci) hd ha
  have hM1 := hM.seer (FrR.o4 f2)
  have key : ∀ m s w4, s + m = 2 ^ c 3 → MFr w1 w4 → ∃ w5, MFr w1 w5 ∧ Rn none 19 jM_best (13, [some (vR (sg 13)), some (vI (nI a)), some (vI (nI s))], [], w4) (some (vI (feI (fiN (fun s => gl c (da c nr ti (upW wf a s) (o, sp)).1 a) m s))), w5) := by
    intro m
    induction m with
    | zero =>
      intro s w4 hs f
      obtain rfl : s = 2 ^ c 3 := by omega
      refine ⟨w4, f, ?_⟩
      refine Rn.cv 60 rfl rfl rfl rfl rfl (m_G (hM1.mfr f).pl) (by decide) ?_
      refine Rn.if2t 60 rfl rfl (by dsimp only [tm_c2P]; rw [nJ_1shl (by omega)]; exact nI_le (Nat.le_refl _) (by omega)) ?_
      exact Rn.ir 60 rfl rfl rfl rfl
    | succ m ih =>
      intro s w4 hs f
      obtain ⟨w5, i1, i2, i3⟩ := m_begin hc (hM1.mfr f).1 (hM1.mfr f).2
      have f6 := (f.tr i2).tr (MFr.wis (j := a) (x := nI s))
      obtain ⟨w7, j1, j2⟩ := m_areGlad hc (hM1.mfr f6).pl (i3.up (p := a) (v := s)) (hd.up (show s < 256 by omega)) ha ha
      rw [agl_self] at j1
      have head : ∀ r, Rn none 19 jM_best (41, [some (vR (sg 13)), some (vI (nI a)), some (vI (nI s))], [vI (bI (gl c (da c nr ti (upW wf a s) (o, sp)).1 a))], w7) r → Rn none 19 jM_best (13, [some (vR (sg 13)), some (vI (nI a)), some (vI (nI s))], [], w4) r := by
        intro r k
        refine Rn.cv 60 rfl rfl rfl rfl rfl (m_G (hM1.mfr f).pl) (by decide) ?_
        refine Rn.if2f 60 rfl rfl (by dsimp only [tm_c2P]; rw [nJ_1shl (by omega)]; exact nI_ge (by omega) (by omega)) ?_
        refine Rn.cv 60 rfl rfl rfl rfl rfl i1 (by decide) ?_
        refine Rn.as 60 rfl rfl rfl rfl (by omega) ?_
        exact Rn.cv 60 rfl rfl rfl rfl rfl j1 (by decide) k
      unfold fiN
      cases hg : gl c (da c nr ti (upW wf a s) (o, sp)).1 a with
      | true =>
        rw [hg] at head
        refine ⟨w7, f6.tr j2, head _ ?_⟩
        rw [if_pos rfl]
        refine Rn.if1f 60 rfl rfl (by dsimp only [tm_c2P]; decide) ?_
        exact Rn.ir 60 rfl rfl rfl rfl
      | false =>
        rw [hg] at head
        obtain ⟨w8, l1, l2⟩ := ih (s + 1) w7 (by omega) (f6.tr j2)
        refine ⟨w8, l1, head _ ?_⟩
        rw [if_neg (by decide)]
        refine Rn.if1t 60 rfl rfl (by dsimp only [tm_c2P]; decide) ?_
        rw [nI_succ s] at l2
        exact Rn.at 2 rfl l2
  obtain ⟨w5, l1, l2⟩ := key (2 ^ c 3) 0 w1 (by omega) MFr.rf
  refine ⟨w1, w5, feI (fiN (fun s => gl c (da c nr ti (upW wf a s) (o, sp)).1 a) (2 ^ c 3) 0), ?_, ?_, (hi.seer (FrR.o4 f2)).mfr l1⟩
  · refine Cl.of rfl rfl rfl (lc := [some (vR (sg 0)), some (vI (nI a))]) rfl ?_
    refine Rn.cs 60 rfl rfl rfl rfl (by rw [x4]; exact x_yes (by omega) ha) (by decide) ?_
    refine Rn.if1f 60 rfl rfl (by dsimp only [tm_c2P]; decide) ?_
    refine Rn.cv 60 rfl rfl rfl rfl rfl f1 (by decide) ?_
    exact Rn.ir 60 rfl rfl rfl rfl
  · refine Cl.of rfl rfl rfl (lc := [some (vR (sg 13)), some (vI (nI a)), none]) rfl ?_
    refine Rn.cv 60 rfl rfl rfl rfl rfl (m_pyes hc hM1.pl ha) (by decide) ?_
    refine Rn.if1t 60 rfl rfl (by dsimp only [tm_c2P]; decide) ?_
    exact Rn.at 2 rfl l2
end
section
/-! laws, sold, round -/
def liI (a : Option (Nat × Nat)) : Int32 := match a with
  | none => -(nI 1000000)
  | some (l, _) => nI l
def lmI (a : Option (Nat × Nat)) : Int32 := match a with
  | none => -(nI 1000000)
  | some (_, m) => nI m
theorem MWk.law {w : Wd} {c : Nat → Nat} {nr ti o sp x y : Nat} {wf : Nat → Nat} (h : MWk w c nr ti o sp wf) : MWk (wset (wset w (sg 13) 21 (nI x)) (sg 13) 22 (nI y)) c x y o sp wf := by
  refine ⟨by rw [wset_k (by decide), wset_k (by decide)]; exact h.1, by rw [wset_k (by decide), wset_k (by decide)]; exact h.2.1, by rw [wset_k (by decide), wset_s], wset_s, fun q hq => ?_⟩
  rw [wset_ne (by decide), wset_ne (by decide)]
  exact h.2.2.2.2 q hq
theorem laS_lt {G : Nat → Nat} : ∀ n i a, (∀ l m, a = some (l, m) → l < i) → ∀ l m, laS G n i a = some (l, m) → l < i + n
  | 0, i, a, h, l, m, e => h l m e
  | n + 1, i, a, h, l, m, e => by
    unfold laS at e
    have := laS_lt n (i + 1) _ (fun l' m' h' => by
      unfold laQ at h'
      split at h'
      · cases h'
        omega
      · next l0 m0 =>
        split at h'
        · cases h'
          omega
        · cases h'
          have := h _ _ rfl
          omega) l m e
    omega
theorem laS_some {G : Nat → Nat} : ∀ n i a, a ≠ none → laS G n i a ≠ none
  | 0, _, _, h => h
  | n + 1, i, a, h => by
    unfold laS
    refine laS_some n (i + 1) _ ?_
    unfold laQ
    split
    · exact fun z => by cases z
    · split
      · exact fun z => by cases z
      · exact fun z => by cases z
theorem op_laws {x y : Int32} : Op jX_laws jM_laws [vI x, vI y] := by
  intro w hi
  obtain ⟨hb, c, nr, ti, o, sp, dy, wf, hok, hci, hma, hact⟩ := id hi.2.2.2.2.2
  have hM : Mt w c nr ti o sp dy wf := ⟨hb, hma⟩
  have hc := hok.1
  have hd := hok.2.1
  have hc0 := hc.1
  have hc4 := hc.2.2.1
  by_cases h0 : 0 < c 0
  · have cx : ∀ {r0 : Rs}, Rn none 19 jX_laws (13, [some (vR (sg 0)), some (vI x), some (vI y)], [], w) r0 → Cl 20 jX_laws [vR (sg 0), vI x, vI y] w r0 := by
      intro r0 k
      refine Cl.of rfl rfl rfl (lc := [some (vR (sg 0)), some (vI x), some (vI y)]) rfl ?_
      refine Rn.cv 60 rfl rfl rfl rfl rfl (x_there hc hci) (by decide) ?_
      rw [decide_eq_true h0]
      exact Rn.if1t 60 rfl rfl (by dsimp only [tm_c2P]; decide) k
    have cm : ∀ {w : Wd} {r0 : Rs}, Mt w c nr ti o sp dy wf → Rn none 19 jM_laws (10, [some (vR (sg 13)), some (vI x), some (vI y), none, none, none, none], [], w) r0 → Cl 20 jM_laws [vR (sg 13), vI x, vI y] w r0 := by
      intro w r0 hM k
      refine Cl.of rfl rfl rfl (lc := [some (vR (sg 13)), some (vI x), some (vI y), none, none, none, none]) rfl ?_
      refine Rn.cv 60 rfl rfl rfl rfl rfl (m_hasCity hc hM.pl) (by decide) ?_
      rw [decide_eq_true h0]
      exact Rn.if1t 60 rfl rfl (by dsimp only [tm_c2P]; decide) k
    rcases pk_or1 (x := x) (n := 10) (by omega) with h1 | ⟨n, n1, n10, rfl⟩
    · refine op_same hi (v := -(nI 1000001)) (cx ?_) (cm hM ?_)
      · refine Rn.if2 60 rfl rfl (fun _ => Rn.ir 60 rfl rfl rfl rfl) (fun h2 => ?_)
        refine Rn.if2t 60 rfl rfl (h1.resolve_left h2) ?_
        exact Rn.ir 60 rfl rfl rfl rfl
      · refine Rn.cs 60 rfl rfl rfl rfl (m_no1 h1) (by decide) ?_
        refine Rn.if1t 60 rfl rfl (by dsimp only [tm_c2P]; decide) ?_
        exact Rn.ir 60 rfl rfl rfl rfl
    have dx : ∀ {r0 : Rs}, Rn none 19 jX_laws (24, [some (vR (sg 0)), some (vI (nI n)), some (vI y)], [], w) r0 → Cl 20 jX_laws [vR (sg 0), vI (nI n), vI y] w r0 := by
      intro r0 k
      refine cx ?_
      refine Rn.if2f 60 rfl rfl (nI_nlt n1 (by omega)) ?_
      exact Rn.if2f 60 rfl rfl (nI_nlt (by omega) (by omega)) k
    have dm : ∀ {w : Wd} {r0 : Rs}, Mt w c nr ti o sp dy wf → Rn none 19 jM_laws (20, [some (vR (sg 13)), some (vI (nI n)), some (vI y), none, none, none, none], [], w) r0 → Cl 20 jM_laws [vR (sg 13), vI (nI n), vI y] w r0 := by
      intro w r0 hM k
      refine cm hM ?_
      refine Rn.cs 60 rfl rfl rfl rfl (m_yes1 (n := 10) (by decide) (by omega) n1) (by decide) ?_
      exact Rn.if1f 60 rfl rfl (by dsimp only [tm_c2P]; decide) k
    rcases pk_or (x := y) (n := 3) (by omega) with h1 | ⟨k, hk, rfl⟩
    · refine op_same hi (v := -(nI 1000001)) (dx ?_) (dm hM ?_)
      · refine Rn.if1 60 rfl rfl (fun _ => Rn.ir 60 rfl rfl rfl rfl) (fun h2 => ?_)
        refine Rn.if2f 60 rfl rfl (Int32.not_le.mpr (nI_lt1 (n := 2) (by decide) (h1.resolve_left h2))) ?_
        exact Rn.ir 60 rfl rfl rfl rfl
      · refine Rn.cs 60 rfl rfl rfl rfl (m_no (n := 2) (by decide) h1) (by decide) ?_
        refine Rn.if1f 60 rfl rfl (by dsimp only [tm_c2P]; decide) ?_
        exact Rn.ir 60 rfl rfl rfl rfl
    obtain ⟨w1, f1, f2, f3⟩ := sp_findLaw hc (TwnI.now hci) hd (n := n) (by omega)
    have hM1 := hM.seer (FrR.oS f2)
    generalize hG : laG c wf (o, sp) n = G at f3
    have key : ∀ m i a w4 x6, i + m = 12 → (∀ l q, a = some (l, q) → q ≤ 8) → MFr w1 w4 → ∃ w5 x6', MFr w1 w5 ∧ ∀ r, Rn none 19 jM_laws (123, [some (vR (sg 13)), some (vI (nI n)), some (vI (nI k)), some (vI (liI (laS G m i a))), some (vI (lmI (laS G m i a))), some (vI (nI 12)), x6'], [], w5) r → Rn none 19 jM_laws (42, [some (vR (sg 13)), some (vI (nI n)), some (vI (nI k)), some (vI (liI a)), some (vI (lmI a)), some (vI (nI i)), x6], [], w4) r := by
      intro m
      induction m with
      | zero =>
        intro i a w4 x6 hi ha8 f
        obtain rfl : i = 12 := by omega
        refine ⟨w4, x6, f, fun r kk => ?_⟩
        exact Rn.if2t 60 rfl rfl (by dsimp only [tm_c2P]; decide) kk
      | succ m ih =>
        intro i a w4 x6 hi ha8 f
        obtain ⟨w5, i1, i2, i3⟩ := m_begin hc (hM1.mfr f).1 (hM1.mfr f).2
        have f6 := ((f.tr i2).tr (MFr.set (j := 21) (x := nI (i / 3)) (by decide))).tr (MFr.set (j := 22) (x := nI (i % 3)) (by decide))
        have k6 := i3.law (x := i / 3) (y := i % 3)
        have hd6 : DyOk c (i / 3) (i % 3) o sp wf := ⟨by omega, by omega, hd.2.2.1, hd.2.2.2.1, hd.2.2.2.2⟩
        obtain ⟨w7, j1, j2, j3, j4⟩ := m_dawnMany hc (hM1.mfr f6).pl k6 hd6 (n := n) (by omega)
        have hg := m_gladBy hc (hM1.mfr (f6.tr j2)).pl j4.2.2.1
        rw [← j3.1] at hg
        have hl : bs (gl c (daI c (i / 3) (i % 3) wf n (o, sp)).1) (c 4) < 256 := by
          have := bs_lt (f := gl c (daI c (i / 3) (i % 3) wf n (o, sp)).1) hc4
          omega
        have hmo := m_manyOf (w := w7) hl
        have hGi : cnt (bs (gl c (daI c (i / 3) (i % 3) wf n (o, sp)).1) (c 4)) = G i := by rw [← hG]; rfl
        have hG8 : G i ≤ 8 := by rw [← hGi]; exact cnt_le _
        rw [hGi] at hmo
        have head : ∀ r, Rn none 19 jM_laws (87, [some (vR (sg 13)), some (vI (nI n)), some (vI (nI k)), some (vI (liI a)), some (vI (lmI a)), some (vI (nI i)), some (vI (nI (G i)))], [], w7) r → Rn none 19 jM_laws (42, [some (vR (sg 13)), some (vI (nI n)), some (vI (nI k)), some (vI (liI a)), some (vI (lmI a)), some (vI (nI i)), x6], [], w4) r := by
          intro r kk
          refine Rn.if2f 60 rfl rfl (nI_ge (by omega) (by omega)) ?_
          refine Rn.cv 60 rfl rfl rfl rfl rfl i1 (by decide) ?_
          refine Rn.at 10 (x := (69, [some (vR (sg 13)), some (vI (nI n)), some (vI (nI k)), some (vI (liI a)), some (vI (lmI a)), some (vI (nI i)), x6], [], wset (wset w5 (sg 13) 21 (nI i / nI 3)) (sg 13) 22 (nI i - nI i / nI 3 * nI 3))) rfl ?_
          rw [pk_rem (show i < 2 ^ 31 by omega) (by decide) (by decide), pk_div (show i < 2 ^ 31 by omega) (by decide) (by decide)]
          refine Rn.cv 60 rfl rfl rfl rfl rfl j1 (by decide) ?_
          refine Rn.cv 60 rfl rfl rfl rfl rfl hg (by decide) ?_
          refine Rn.cs 60 rfl rfl rfl rfl hmo (by decide) ?_
          exact Rn.at 1 rfl kk
        obtain ⟨w8, x6', l1, l2⟩ := ih (i + 1) (laQ G i a) w7 (some (vI (nI (G i)))) (by omega) (fun l q hq => by
          unfold laQ at hq
          split at hq
          · cases hq
            exact hG8
          · next l0 m0 =>
            split at hq
            · cases hq
              exact hG8
            · cases hq
              exact ha8 _ _ rfl) (f6.tr j2)
        refine ⟨w8, x6', l1, fun r kk => head r ?_⟩
        have l3 := l2 r kk
        rw [nI_succ i] at l3
        have yes : lmI a < nI (G i) → laQ G i a = some (i, G i) → Rn none 19 jM_laws (87, [some (vR (sg 13)), some (vI (nI n)), some (vI (nI k)), some (vI (liI a)), some (vI (lmI a)), some (vI (nI i)), some (vI (nI (G i)))], [], w7) r := by
          intro hlt hq
          rw [hq] at l3
          refine Rn.if2f 60 rfl rfl (Int32.not_le.mpr hlt) ?_
          refine Rn.at 3 rfl ?_
          refine Rn.if2f 60 rfl rfl (Int32.not_le.mpr hlt) ?_
          exact Rn.at 5 rfl l3
        cases a with
        | none => exact yes (by show -(nI 1000000) < nI (G i); rw [Int32.lt_iff_toInt_lt, nI_toInt (by omega), show (-(nI 1000000)).toInt = -1000000 by decide]; omega) rfl
        | some p =>
          obtain ⟨l, mm⟩ := p
          have h8 := ha8 l mm rfl
          by_cases e : mm < G i
          · exact yes (nI_lt e (by omega)) (by unfold laQ; dsimp only; rw [if_pos e])
          · rw [show laQ G i (some (l, mm)) = some (l, mm) from by unfold laQ; dsimp only; rw [if_neg e]] at l3
            refine Rn.if2t 60 rfl rfl (nI_le (by omega) (by omega)) ?_
            refine Rn.if2t 60 rfl rfl (nI_le (by omega) (by omega)) ?_
            exact Rn.at 4 rfl l3
    obtain ⟨w5, x6', l1, l2⟩ := key 12 0 none w1 none (by omega) (fun l q h => by cases h) MFr.rf
    cases ha : laS G 12 0 none with
    | none =>
      exact absurd ha (by
        show laS G 11 1 (some (0, G 0)) ≠ none
        exact laS_some _ _ _ (fun z => by cases z))
    | some p =>
      obtain ⟨l, m⟩ := p
      have hl12 := laS_lt 12 0 none (fun l m h => by cases h) l m ha
      rw [ha] at f3 l2
      obtain ⟨g1, g2, g3, g4⟩ : w1 (sg 10) 0 = nI (l / 3) ∧ w1 (sg 10) 1 = nI (l % 3) ∧ w1 (sg 10) 2 = nI m ∧ m ≤ 8 := f3
      have ex : ∀ {r0 : Rs}, Rn none 19 jX_laws (48, [some (vR (sg 0)), some (vI (nI n)), some (vI (nI k))], [], w1) r0 → Cl 20 jX_laws [vR (sg 0), vI (nI n), vI (nI k)] w r0 := by
        intro r0 kk
        refine dx ?_
        refine Rn.if1f 60 rfl rfl (nI_pos (by omega)) ?_
        refine Rn.if2t 60 rfl rfl (nI_le (by omega) (by decide)) ?_
        exact Rn.cv 60 rfl rfl rfl rfl rfl f1 (by decide) kk
      have em : ∀ {r0 : Rs}, Rn none 19 jM_laws (123, [some (vR (sg 13)), some (vI (nI n)), some (vI (nI k)), some (vI (nI l)), some (vI (nI m)), some (vI (nI 12)), x6'], [], w5) r0 → Cl 20 jM_laws [vR (sg 13), vI (nI n), vI (nI k)] w1 r0 := by
        intro r0 kk
        refine dm hM1 ?_
        refine Rn.cs 60 rfl rfl rfl rfl (m_yes (n := 2) (by decide) (by omega)) (by decide) ?_
        refine Rn.if1t 60 rfl rfl (by dsimp only [tm_c2P]; decide) ?_
        exact Rn.at 6 rfl (l2 _ kk)
      have hi5 := (hi.seer (FrR.oS f2)).mfr l1
      rcases (by omega : k = 0 ∨ k = 1 ∨ k = 2) with rfl | rfl | rfl
      · refine ⟨w1, w5, nI (l / 3), ex ?_, em ?_, hi5⟩
        · refine Rn.lsw 60 (t := 76) rfl rfl rfl ?_
          rw [← g1]
          exact Rn.ir 60 rfl rfl rfl rfl
        · refine Rn.if1f 60 rfl rfl (by dsimp only [tm_c2P]; decide) ?_
          rw [← pk_div (show l < 2 ^ 31 by omega) (show 0 < 3 by decide) (by decide)]
          exact Rn.ir 60 rfl rfl rfl rfl
      · refine ⟨w1, w5, nI (l % 3), ex ?_, em ?_, hi5⟩
        · refine Rn.lsw 60 (t := 84) rfl rfl rfl ?_
          rw [← g2]
          exact Rn.ir 60 rfl rfl rfl rfl
        · refine Rn.if1t 60 rfl rfl (by dsimp only [tm_c2P]; decide) ?_
          refine Rn.if2f 60 rfl rfl (by dsimp only [tm_c2P]; decide) ?_
          rw [← pk_rem (show l < 2 ^ 31 by omega) (show 0 < 3 by decide) (by decide)]
          exact Rn.ir 60 rfl rfl rfl rfl
      · refine ⟨w1, w5, nI m, ex ?_, em ?_, hi5⟩
        · refine Rn.lsw 60 (t := 92) rfl rfl rfl ?_
          rw [← g3]
          exact Rn.ir 60 rfl rfl rfl rfl
        · refine Rn.if1t 60 rfl rfl (by dsimp only [tm_c2P]; decide) ?_
          refine Rn.if2t 60 rfl rfl (by dsimp only [tm_c2P]; decide) ?_
          exact Rn.ir 60 rfl rfl rfl rfl
  · refine op_same hi (v := -(nI 1000002)) ?_ ?_
    · refine Cl.of rfl rfl rfl (lc := [some (vR (sg 0)), some (vI x), some (vI y)]) rfl ?_
      refine Rn.cv 60 rfl rfl rfl rfl rfl (x_there hc hci) (by decide) ?_
      rw [decide_eq_false h0]
      refine Rn.if1f 60 rfl rfl (by dsimp only [tm_c2P]; decide) ?_
      exact Rn.ir 60 rfl rfl rfl rfl
    · refine Cl.of rfl rfl rfl (lc := [some (vR (sg 13)), some (vI x), some (vI y), none, none, none, none]) rfl ?_
      refine Rn.cv 60 rfl rfl rfl rfl rfl (m_hasCity hc hM.pl) (by decide) ?_
      rw [decide_eq_false h0]
      refine Rn.if1f 60 rfl rfl (by dsimp only [tm_c2P]; decide) ?_
      exact Rn.ir 60 rfl rfl rfl rfl
theorem m_isWish_is {w : Wd} {c : Nat → Nat} (hc : PlOk c) (h : MPl w c) (x : Int32) : Cl 2 jM_isWish [vR (sg 13), vI x] w (some (vI (bI (decide (nI 0 ≤ x) && decide (x ≤ nI (2 ^ c 3) - nI 1)))), w) := by
  have hc3 := hc.2.1
  refine Cl.of rfl rfl rfl (lc := [some (vR (sg 13)), some (vI x)]) rfl ?_
  refine Rn.cv 60 rfl rfl rfl rfl rfl (m_G h) (by decide) ?_
  have k := m_in (w := w) (x := x) (y := nI 0) (z := nI (2 ^ c 3) - nI 1)
  rw [← nJ_1shl (show c 3 < 32 by omega)] at k
  refine Rn.cs 60 rfl rfl rfl rfl k (by decide) ?_
  rw [nJ_1shl (by omega)]
  exact Rn.zr 60 rfl rfl rfl (bI01 _) rfl
theorem m_wno {w : Wd} {c : Nat → Nat} {x : Int32} (hc : PlOk c) (h : MPl w c) (hx : x < 0 ∨ nI (2 ^ c 3) ≤ x) : Cl 2 jM_isWish [vR (sg 13), vI x] w (some (vI (bI false)), w) := by
  have hc3 := hc.2.1
  have hp3 : 2 ^ c 3 ≤ 256 := Nat.pow_le_pow_right (n := 2) (by decide) hc3
  have k := m_isWish_is hc h x
  rw [in_no (by omega) hx] at k
  exact k
theorem m_wyes {w : Wd} {c : Nat → Nat} {s : Nat} (hc : PlOk c) (h : MPl w c) (hx : s < 2 ^ c 3) : Cl 2 jM_isWish [vR (sg 13), vI (nI s)] w (some (vI (bI true)), w) := by
  have hc3 := hc.2.1
  have hp3 : 2 ^ c 3 ≤ 256 := Nat.pow_le_pow_right (n := 2) (by decide) hc3
  have k := m_isWish_is hc h (nI s)
  rw [in_yes (by omega) hx] at k
  exact k
theorem x_wno {w : Wd} {c : Nat → Nat} {x : Int32} (hc : PlOk c) (h : w (cit 0 0) 3 = nI (c 3)) (hx : x < 0 ∨ nI (2 ^ c 3) ≤ x) : Cl 2 jC_isGateSet [vR (cit 0 0), vI x] w (some (vI (bI false)), w) := by
  have hc3 := hc.2.1
  have hp3 : 2 ^ c 3 ≤ 256 := Nat.pow_le_pow_right (n := 2) (by decide) hc3
  obtain ⟨b, h1, h2⟩ := sp_isGateSet h hc3 x
  have hb : b = false := by
    rw [Bool.eq_false_iff]
    intro z
    obtain ⟨j, hj, rfl⟩ := h2.mp z
    rcases hx with q | q
    · exact nI_pos (by omega) q
    · rw [nJ_le (by omega) (by omega)] at q
      omega
  rw [hb] at h1
  exact h1
theorem x_wyes {w : Wd} {c : Nat → Nat} {s : Nat} (hc : PlOk c) (h : w (cit 0 0) 3 = nI (c 3)) (hx : s < 2 ^ c 3) : Cl 2 jC_isGateSet [vR (cit 0 0), vI (nI s)] w (some (vI (bI true)), w) := by
  obtain ⟨b, h1, h2⟩ := sp_isGateSet h hc.2.1 (nI s)
  rw [h2.mpr ⟨s, hx, rfl⟩] at h1
  exact h1
theorem op_sold {x : Int32} : Op jX_sold jM_sold [vI x] := by
  intro w hi
  obtain ⟨hb, c, nr, ti, o, sp, dy, wf, hok, hci, hma, hact⟩ := id hi.2.2.2.2.2
  have hM : Mt w c nr ti o sp dy wf := ⟨hb, hma⟩
  have hc := hok.1
  have hd := hok.2.1
  have hc0 := hc.1
  have hc3 := hc.2.1
  have hc4 := hc.2.2.1
  have hp3 : 2 ^ c 3 ≤ 256 := Nat.pow_le_pow_right (n := 2) (by decide) hc3
  by_cases h0 : 0 < c 0
  · have cx : ∀ {r0 : Rs}, Rn none 19 jX_sold (13, [some (vR (sg 0)), some (vI x)], [], w) r0 → Cl 20 jX_sold [vR (sg 0), vI x] w r0 := by
      intro r0 k
      refine Cl.of rfl rfl rfl (lc := [some (vR (sg 0)), some (vI x)]) rfl ?_
      refine Rn.cv 60 rfl rfl rfl rfl rfl (x_there hc hci) (by decide) ?_
      rw [decide_eq_true h0]
      exact Rn.if1t 60 rfl rfl (by dsimp only [tm_c2P]; decide) k
    have cm : ∀ {w : Wd} {r0 : Rs}, Mt w c nr ti o sp dy wf → Rn none 19 jM_sold (10, [some (vR (sg 13)), some (vI x), none, none, none], [], w) r0 → Cl 20 jM_sold [vR (sg 13), vI x] w r0 := by
      intro w r0 hM k
      refine Cl.of rfl rfl rfl (lc := [some (vR (sg 13)), some (vI x), none, none, none]) rfl ?_
      refine Rn.cv 60 rfl rfl rfl rfl rfl (m_hasCity hc hM.pl) (by decide) ?_
      rw [decide_eq_true h0]
      exact Rn.if1t 60 rfl rfl (by dsimp only [tm_c2P]; decide) k
    rcases pk_or (x := x) (n := 2 ^ c 3) (by omega) with h1 | ⟨s, hs, rfl⟩
    · refine op_same hi (v := -(nI 1000001)) (cx ?_) (cm hM ?_)
      · refine Rn.cv 60 rfl rfl rfl rfl rfl (x_wno hc hci.1.2.1 h1) (by decide) ?_
        refine Rn.if1t 60 rfl rfl (by dsimp only [tm_c2P]; decide) ?_
        exact Rn.ir 60 rfl rfl rfl rfl
      · refine Rn.cv 60 rfl rfl rfl rfl rfl (m_wno hc hM.pl h1) (by decide) ?_
        refine Rn.if1f 60 rfl rfl (by dsimp only [tm_c2P]; decide) ?_
        exact Rn.ir 60 rfl rfl rfl rfl
    obtain ⟨w1, f1, f2⟩ := sp_sellers hc (TwnI.now hci) hd (x := s) (by omega)
    have hM1 := hM.seer (FrR.o4 f2)
    have inner : ∀ p, p < c 4 → ∀ m g a w4, g + m = c 3 → MFr w1 w4 → ∃ w5, MFr w1 w5 ∧ ∀ r, Rn none 19 jM_sold (92, [some (vR (sg 13)), some (vI (nI s)), some (vI (nI (seJ (seT c nr ti wf (o, sp) s) p m g a))), some (vI (nI p)), some (vI (nI (c 3)))], [], w5) r → Rn none 19 jM_sold (37, [some (vR (sg 13)), some (vI (nI s)), some (vI (nI a)), some (vI (nI p)), some (vI (nI g))], [], w4) r := by
      intro p hp m
      induction m with
      | zero =>
        intro g a w4 hg f
        obtain rfl : g = c 3 := by omega
        refine ⟨w4, f, fun r k => ?_⟩
        refine Rn.cv 60 rfl rfl rfl rfl rfl (m_G (hM1.mfr f).pl) (by decide) ?_
        exact Rn.if2t 60 rfl rfl (nI_le (Nat.le_refl _) (by omega)) k
      | succ m ih =>
        intro g a w4 hg f
        have w8 := hd.2.2.2.2 p hp
        obtain ⟨w5, i1, i2, i3⟩ := m_begin hc (hM1.mfr f).1 (hM1.mfr f).2
        have f6 := (f.tr i2).tr (MFr.wis (j := p) (x := nI (sbN (wf p) g (!(wf p).testBit g))))
        have hd6 : DyOk c nr ti o sp (upW wf p (sbN (wf p) g (!(wf p).testBit g))) := hd.up (sbN_lt w8 (by omega))
        obtain ⟨w7, j1, j2, j3⟩ := m_dawns hc (hM1.mfr f6).pl (i3.up (p := p) (v := sbN (wf p) g (!(wf p).testBit g))) hd6
        have o8 := (hd6.da hc).2.2.1
        obtain ⟨w8', l1, l2⟩ := ih (g + 1) (a ||| bif seT c nr ti wf (o, sp) s p g then 2 ^ p else 0) w7 (by omega) (f6.tr j2)
        refine ⟨w8', l1, fun r k => ?_⟩
        have l3 := l2 r k
        rw [nI_succ g, ← nJ_or] at l3
        refine Rn.cv 60 rfl rfl rfl rfl rfl (m_G (hM1.mfr f).pl) (by decide) ?_
        refine Rn.if2f 60 rfl rfl (nI_ge (by omega) (by omega)) ?_
        refine Rn.cv 60 rfl rfl rfl rfl rfl i1 (by decide) ?_
        refine Rn.al 60 rfl rfl rfl rfl (by omega) ?_
        rw [i3.2.2.2.2 p hp]
        refine Rn.as 60 rfl rfl rfl rfl (by omega) ?_
        dsimp only
        rw [nJ_1shl (by omega), nJ_flip g (by omega) _ w8]
        refine Rn.cv 60 rfl rfl rfl rfl rfl j1 (by decide) ?_
        by_cases e : (da c nr ti (upW wf p (sbN (wf p) g (!(wf p).testBit g))) (o, sp)).1 = s
        · have es : seT c nr ti wf (o, sp) s p g = true := decide_eq_true e
          rw [es, cond_true, ← nJ_1shl (by omega)] at l3
          refine Rn.if2f 60 rfl rfl (by dsimp only [tm_c2P]; rw [j3.1, e]; exact fun z => z rfl) ?_
          exact Rn.at 8 rfl l3
        · have es : seT c nr ti wf (o, sp) s p g = false := decide_eq_false e
          rw [es, cond_false] at l3
          refine Rn.if2t 60 rfl rfl (by dsimp only [tm_c2P]; rw [j3.1, nI_eq (by omega) (by omega)]; exact e) ?_
          exact Rn.at 5 rfl l3
    have outer : ∀ m p a w4 x4, p + m = c 4 → MFr w1 w4 → ∃ w5, MFr w1 w5 ∧ Rn none 19 jM_sold (25, [some (vR (sg 13)), some (vI (nI s)), some (vI (nI a)), some (vI (nI p)), x4], [], w4) (some (vI (nI (seI (seT c nr ti wf (o, sp) s) (c 3) m p a))), w5) := by
      intro m
      induction m with
      | zero =>
        intro p a w4 x4 hp f
        obtain rfl : p = c 4 := by omega
        refine ⟨w4, f, ?_⟩
        refine Rn.cv 60 rfl rfl rfl rfl rfl (m_P (hM1.mfr f).pl) (by decide) ?_
        refine Rn.if2t 60 rfl rfl (nI_le (Nat.le_refl _) (by omega)) ?_
        exact Rn.ir 60 rfl rfl rfl rfl
      | succ m ih =>
        intro p a w4 x4 hp f
        obtain ⟨w5, g1, g2⟩ := inner p (by omega) (c 3) 0 a w4 (by omega) f
        obtain ⟨w6, l1, l2⟩ := ih (p + 1) (seJ (seT c nr ti wf (o, sp) s) p (c 3) 0 a) w5 (some (vI (nI (c 3)))) (by omega) g1
        refine ⟨w6, l1, ?_⟩
        refine Rn.cv 60 rfl rfl rfl rfl rfl (m_P (hM1.mfr f).pl) (by decide) ?_
        refine Rn.if2f 60 rfl rfl (nI_ge (by omega) (by omega)) ?_
        refine Rn.at 2 rfl (g2 _ ?_)
        unfold seI
        rw [nI_succ p] at l2
        exact Rn.at 2 rfl l2
    obtain ⟨w5, l1, l2⟩ := outer (c 4) 0 0 w1 none (by omega) MFr.rf
    refine ⟨w1, w5, nI (seI (seT c nr ti wf (o, sp) s) (c 3) (c 4) 0 0), cx ?_, cm hM1 ?_, (hi.seer (FrR.o4 f2)).mfr l1⟩
    · refine Rn.cv 60 rfl rfl rfl rfl rfl (x_wyes hc hci.1.2.1 hs) (by decide) ?_
      refine Rn.if1f 60 rfl rfl (by dsimp only [tm_c2P]; decide) ?_
      refine Rn.cv 60 rfl rfl rfl rfl rfl f1 (by decide) ?_
      exact Rn.ir 60 rfl rfl rfl rfl
    · refine Rn.cv 60 rfl rfl rfl rfl rfl (m_wyes hc hM1.pl hs) (by decide) ?_
      refine Rn.if1t 60 rfl rfl (by dsimp only [tm_c2P]; decide) ?_
      exact Rn.at 4 rfl l2
  · refine op_same hi (v := -(nI 1000002)) ?_ ?_
    · refine Cl.of rfl rfl rfl (lc := [some (vR (sg 0)), some (vI x)]) rfl ?_
      refine Rn.cv 60 rfl rfl rfl rfl rfl (x_there hc hci) (by decide) ?_
      rw [decide_eq_false h0]
      refine Rn.if1f 60 rfl rfl (by dsimp only [tm_c2P]; decide) ?_
      exact Rn.ir 60 rfl rfl rfl rfl
    · refine Cl.of rfl rfl rfl (lc := [some (vR (sg 13)), some (vI x), none, none, none]) rfl ?_
      refine Rn.cv 60 rfl rfl rfl rfl rfl (m_hasCity hc hM.pl) (by decide) ?_
      rw [decide_eq_false h0]
      refine Rn.if1f 60 rfl rfl (by dsimp only [tm_c2P]; decide) ?_
      exact Rn.ir 60 rfl rfl rfl rfl
end
section
/-! round -/
/-- the reference stands at q -/
def MAt (w : Wd) (c : Nat → Nat) (nr ti : Nat) (wf : Nat → Nat) (q : NN) : Prop := MWk w c nr ti q.1 q.2 wf ∧ DyOk c nr ti q.1 q.2 wf
theorem MAt.dawn {w : Wd} {c : Nat → Nat} {nr ti : Nat} {wf : Nat → Nat} {q : NN} (hc : PlOk c) (hp : MPl w c) (h : MAt w c nr ti wf q) : ∃ w', Cl 6 jM_dawns [vR (sg 13)] w (none, w') ∧ MFr w w' ∧ MAt w' c nr ti wf (da c nr ti wf q) := by
  obtain ⟨w', h1, h2, h3⟩ := m_dawns hc hp h.1 h.2
  exact ⟨w', h1, h2, h3, h.2.da hc⟩
theorem m_length {w : Wd} {c : Nat → Nat} {nr ti o sp dy : Nat} {wf : Nat → Nat} (hc : PlOk c) (hM : Mt w c nr ti o sp dy wf) (hd : DyOk c nr ti o sp wf) : ∃ w', Cl 8 jM_length [vR (sg 13)] w (some (vI (nI (brL (da c nr ti wf) (o, sp)))), w') ∧ MFr w w' := by
  obtain ⟨w1, a1, a2, a3⟩ := m_begin hc hM.1 hM.2
  have key : ∀ f i n m (t u : NN) L w3 x5, brN (da c nr ti wf) f t u n m = some L → i + 1 = m + n → n < m → i + f ≤ 20000 → t.1 < 256 → t.2 < 32 → MFr w w3 → MAt w3 c nr ti wf u → ∃ w4, MFr w w4 ∧ Rn none 7 jM_length (51, [some (vR (sg 13)), some (vI (nI t.1)), some (vI (nI t.2)), some (vI (nI n)), some (vI (nI m)), x5], [], w3) (some (vI (nI L)), w4) := by
    intro f
    induction f with
    | zero => intro i n m t u L w3 x5 h; cases h
    | succ f ih =>
      intro i n m t u L w3 x5 hb hi hn hf ht1 ht2 hr hu
      obtain ⟨w4, b1, b2, b3⟩ := hu.dawn hc (hM.mfr hr).pl
      obtain ⟨u1, u2⟩ : (da c nr ti wf u).1 < 256 ∧ (da c nr ti wf u).2 < 32 := ⟨b3.2.2.2.1, b3.2.2.2.2.1⟩
      have head : ∀ r, Rn none 7 jM_length (79, [some (vR (sg 13)), some (vI (nI t.1)), some (vI (nI t.2)), some (vI (nI (n + 1))), some (vI (nI m)), x5], [vI (bI (decide (da c nr ti wf u = t)))], w4) r → Rn none 7 jM_length (51, [some (vR (sg 13)), some (vI (nI t.1)), some (vI (nI t.2)), some (vI (nI n)), some (vI (nI m)), x5], [], w3) r := by
        intro r k
        refine Rn.cv 60 rfl rfl rfl rfl rfl b1 (by decide) ?_
        rw [nI_succ n] at k
        by_cases e1 : (da c nr ti wf u).1 = t.1
        · refine Rn.if2f 60 rfl rfl (by dsimp only [tm_c2P]; rw [b3.1.1, e1]; exact fun z => z rfl) ?_
          by_cases e2 : (da c nr ti wf u).2 = t.2
          · rw [decide_eq_true (Prod.ext e1 e2)] at k
            refine Rn.if2f 60 rfl rfl (by dsimp only [tm_c2P]; rw [b3.1.2.1, e2]; exact fun z => z rfl) ?_
            exact Rn.at 2 rfl k
          · rw [decide_eq_false (fun z => e2 (by rw [z]))] at k
            refine Rn.if2t 60 rfl rfl (by dsimp only [tm_c2P]; rw [b3.1.2.1, nI_eq (by omega) (by omega)]; exact e2) ?_
            exact Rn.at 1 rfl k
        · rw [decide_eq_false (fun z => e1 (by rw [z]))] at k
          refine Rn.if2t 60 rfl rfl (by dsimp only [tm_c2P]; rw [b3.1.1, nI_eq (by omega) (by omega)]; exact e1) ?_
          exact Rn.at 1 rfl k
      unfold brN at hb
      by_cases c1 : da c nr ti wf u = t
      · rw [if_pos c1] at hb
        cases hb
        rw [decide_eq_true c1] at head
        refine ⟨w4, hr.tr b2, head _ ?_⟩
        refine Rn.if1t 60 rfl rfl (by dsimp only [tm_c2P]; decide) ?_
        exact Rn.ir 60 rfl rfl rfl rfl
      · rw [if_neg c1] at hb
        rw [decide_eq_false c1] at head
        by_cases c2 : n + 1 = m
        · rw [if_pos c2] at hb
          obtain ⟨w6, d1, d2⟩ := ih (i + 1) 0 (2 * m) (da c nr ti wf u) (da c nr ti wf u) L w4 (some (vI (bI false))) hb (by omega) (by omega) (by omega) u1 u2 (hr.tr b2) b3
          refine ⟨w6, d1, head _ ?_⟩
          refine Rn.if1f 60 rfl rfl (by dsimp only [tm_c2P]; decide) ?_
          refine Rn.if2f 60 rfl rfl (by dsimp only [tm_c2P]; rw [c2]; exact fun z => z rfl) ?_
          rw [← nJ_2mul, ← b3.1.1, ← b3.1.2.1] at d2
          exact Rn.at 12 rfl d2
        · rw [if_neg c2] at hb
          obtain ⟨w6, d1, d2⟩ := ih (i + 1) (n + 1) m t (da c nr ti wf u) L w4 (some (vI (bI false))) hb (by omega) (by omega) (by omega) ht1 ht2 (hr.tr b2) b3
          refine ⟨w6, d1, head _ ?_⟩
          refine Rn.if1f 60 rfl rfl (by dsimp only [tm_c2P]; decide) ?_
          exact Rn.if2t 60 rfl rfl (by dsimp only [tm_c2P]; rw [nI_eq (by omega) (by omega)]; exact c2) d2
  have hL := (brL_is (F := da c nr ti wf) (fun q hq => da_ok hc hq.2) (q := (o, sp)) ⟨hd.2.2.1, hd.2.2.2.1⟩).1
  obtain ⟨w4, e1, e2⟩ := key 20000 0 0 1 _ _ _ w1 (some (vI (nI 0))) hL (by omega) (by omega) (by omega) hd.2.2.1 hd.2.2.2.1 a2 ⟨a3, hd⟩
  refine ⟨w4, ?_, e1⟩
  refine Cl.of rfl rfl rfl (lc := [some (vR (sg 13)), none, none, none, none, none]) rfl ?_
  refine Rn.cv 60 rfl rfl rfl rfl rfl a1 (by decide) ?_
  refine Rn.at 12 (x := (22, [some (vR (sg 13)), some (vI (nI o)), some (vI (nI sp)), some (vI (nI 0)), some (vI (nI 1)), some (vI (nI 0))], [], w1)) (by rw [← a3.1, ← a3.2.1]; rfl) ?_
  refine Rn.if1f 60 rfl rfl (by dsimp only [tm_c2P]; decide) ?_
  exact Rn.if2t 60 rfl rfl (by dsimp only [tm_c2P]; decide) e2
theorem MWk.at {w : Wd} {c : Nat → Nat} {nr ti o sp o' sp' : Nat} {wf : Nat → Nat} (h : MWk w c nr ti o sp wf) : MWk (wset (wset w (sg 13) 18 (nI o')) (sg 13) 19 (nI sp')) c nr ti o' sp' wf := by
  refine ⟨by rw [wset_k (by decide), wset_s], wset_s, by rw [wset_k (by decide), wset_k (by decide)]; exact h.2.2.1, by rw [wset_k (by decide), wset_k (by decide)]; exact h.2.2.2.1, fun q hq => ?_⟩
  rw [wset_ne (by decide), wset_ne (by decide)]
  exact h.2.2.2.2 q hq
theorem op_round {x : Int32} : Op jX_round jM_round [vI x] := by
  intro w hi
  obtain ⟨hb, c, nr, ti, o, sp, dy, wf, hok, hci, hma, hact⟩ := id hi.2.2.2.2.2
  have hM : Mt w c nr ti o sp dy wf := ⟨hb, hma⟩
  have hc := hok.1
  have hd := hok.2.1
  have hc0 := hc.1
  by_cases h0 : 0 < c 0
  · have cx : ∀ {r0 : Rs}, Rn none 19 jX_round (13, [some (vR (sg 0)), some (vI x), none], [], w) r0 → Cl 20 jX_round [vR (sg 0), vI x] w r0 := by
      intro r0 k
      refine Cl.of rfl rfl rfl (lc := [some (vR (sg 0)), some (vI x), none]) rfl ?_
      refine Rn.cv 60 rfl rfl rfl rfl rfl (x_there hc hci) (by decide) ?_
      rw [decide_eq_true h0]
      exact Rn.if1t 60 rfl rfl (by dsimp only [tm_c2P]; decide) k
    have cm : ∀ {w : Wd} {r0 : Rs}, Mt w c nr ti o sp dy wf → Rn none 19 jM_round (10, [some (vR (sg 13)), some (vI x), none, none, none, none, none, none], [], w) r0 → Cl 20 jM_round [vR (sg 13), vI x] w r0 := by
      intro w r0 hM k
      refine Cl.of rfl rfl rfl (lc := [some (vR (sg 13)), some (vI x), none, none, none, none, none, none]) rfl ?_
      refine Rn.cv 60 rfl rfl rfl rfl rfl (m_hasCity hc hM.pl) (by decide) ?_
      rw [decide_eq_true h0]
      exact Rn.if1t 60 rfl rfl (by dsimp only [tm_c2P]; decide) k
    rcases pk_or (x := x) (n := 2) (by omega) with h1 | ⟨k, hk, rfl⟩
    · refine op_same hi (v := -(nI 1000001)) (cx ?_) (cm hM ?_)
      · refine Rn.if1 60 rfl rfl (fun _ => Rn.ir 60 rfl rfl rfl rfl) (fun h2 => ?_)
        refine Rn.if2f 60 rfl rfl (Int32.not_le.mpr (nI_lt1 (n := 1) (by decide) (h1.resolve_left h2))) ?_
        exact Rn.ir 60 rfl rfl rfl rfl
      · refine Rn.cs 60 rfl rfl rfl rfl (m_no (n := 1) (by decide) h1) (by decide) ?_
        refine Rn.if1f 60 rfl rfl (by dsimp only [tm_c2P]; decide) ?_
        exact Rn.ir 60 rfl rfl rfl rfl
    have hF : ∀ q, st8 q → st8 (da c nr ti wf q) := fun q hq => da_ok hc hq.2
    obtain ⟨_, kk, _, _, _, hL⟩ := brL_is hF (q := (o, sp)) ⟨hd.2.2.1, hd.2.2.2.1⟩
    obtain ⟨hT, hT2⟩ := tlL_is hF (q := (o, sp)) ⟨hd.2.2.1, hd.2.2.2.1⟩
    obtain ⟨w1, f1, f2⟩ := sp_roundLength hc (TwnI.now hci) hd
    have hci1 := hci.fr (fun p => f2.town p)
    obtain ⟨w2, g1, g2⟩ := sp_roundTail hc (TwnI.now hci1) hd
    generalize hl : brL (da c nr ti wf) (o, sp) = ll at *
    generalize ht : tlL (da c nr ti wf) (o, sp) = tt at *
    have ex : ∀ {r0 : Rs}, Rn none 19 jX_round (37, [some (vR (sg 0)), some (vI (nI k)), some (vI (nI ll))], [], w1) r0 → Cl 20 jX_round [vR (sg 0), vI (nI k)] w r0 := by
      intro r0 kk
      refine cx ?_
      refine Rn.if1f 60 rfl rfl (nI_pos (by omega)) ?_
      refine Rn.if2t 60 rfl rfl (nI_le (by omega) (by decide)) ?_
      refine Rn.cv 60 rfl rfl rfl rfl rfl f1 (by decide) ?_
      exact Rn.at 1 rfl kk
    have em : ∀ {w : Wd}, Mt w c nr ti o sp dy wf → ∃ w' x4 x5 x6 x7, MFr w w' ∧ ∀ r0, Rn none 19 jM_round (138, [some (vR (sg 13)), some (vI (nI k)), some (vI (nI ll)), some (vI (nI tt)), x4, x5, x6, x7], [], w') r0 → Cl 20 jM_round [vR (sg 13), vI (nI k)] w r0 := by
      intro w hM
      obtain ⟨w3, i1, i2⟩ := m_length hc hM hd
      rw [hl] at i1
      obtain ⟨w4, j1, j2, j3⟩ := m_begin hc (hM.mfr i2).1 (hM.mfr i2).2
      obtain ⟨w5, l1, l2, l3, l4⟩ := m_dawnMany hc (hM.mfr (i2.tr j2)).pl j3 hd (n := ll) (by omega)
      rw [daI_itN] at l3 l4
      have key : ∀ f n (t u q : NN) L w6, tlN (da c nr ti wf) f t u n = some L → MFr w w6 → MWk w6 c nr ti q.1 q.2 wf → st8 t → st8 u → ∃ w7 x4 x5 x6 x7, MFr w w7 ∧ ∀ r0, Rn none 19 jM_round (138, [some (vR (sg 13)), some (vI (nI k)), some (vI (nI ll)), some (vI (nI L)), x4, x5, x6, x7], [], w7) r0 → Rn none 19 jM_round (62, [some (vR (sg 13)), some (vI (nI k)), some (vI (nI ll)), some (vI (nI n)), some (vI (nI t.1)), some (vI (nI t.2)), some (vI (nI u.1)), some (vI (nI u.2))], [], w6) r0 := by
        intro f
        induction f with
        | zero => intro n t u q L w6 h; cases h
        | succ f ih =>
          intro n t u q L w6 hb hf hq ht hu
          obtain ⟨t1, t2⟩ := id ht
          obtain ⟨u1, u2⟩ := id hu
          unfold tlN at hb
          by_cases c1 : t = u
          · rw [if_pos c1] at hb
            cases hb
            refine ⟨w6, some (vI (nI t.1)), some (vI (nI t.2)), some (vI (nI u.1)), some (vI (nI u.2)), hf, fun r0 kk => ?_⟩
            refine Rn.if2f 60 rfl rfl (by dsimp only [tm_c2P]; rw [c1]; exact fun z => z rfl) ?_
            exact Rn.if2t 60 rfl rfl (by dsimp only [tm_c2P]; rw [c1]) kk
          · rw [if_neg c1] at hb
            have ht' : MAt (wset (wset w6 (sg 13) 18 (nI t.1)) (sg 13) 19 (nI t.2)) c nr ti wf t := ⟨hq.at, hd.1, hd.2.1, t1, t2, hd.2.2.2.2⟩
            have f1 := (hf.tr (MFr.set (j := 18) (x := nI t.1) (by decide))).tr (MFr.set (j := 19) (x := nI t.2) (by decide))
            obtain ⟨w7, a1, a2, a3⟩ := ht'.dawn hc (hM.mfr f1).pl
            have hu' : MAt (wset (wset w7 (sg 13) 18 (nI u.1)) (sg 13) 19 (nI u.2)) c nr ti wf u := ⟨a3.1.at, hd.1, hd.2.1, u1, u2, hd.2.2.2.2⟩
            have f2 := ((f1.tr a2).tr (MFr.set (j := 18) (x := nI u.1) (by decide))).tr (MFr.set (j := 19) (x := nI u.2) (by decide))
            obtain ⟨w8, b1, b2, b3⟩ := hu'.dawn hc (hM.mfr f2).pl
            obtain ⟨w9, x4, x5, x6, x7, d1, d2⟩ := ih (n + 1) (da c nr ti wf t) (da c nr ti wf u) (da c nr ti wf u) L w8 hb (f2.tr b2) b3.1 (hF t ht) (hF u hu)
            refine ⟨w9, x4, x5, x6, x7, d1, fun r0 kk => ?_⟩
            have d3 := d2 r0 kk
            have body : Rn none 19 jM_round (76, [some (vR (sg 13)), some (vI (nI k)), some (vI (nI ll)), some (vI (nI n)), some (vI (nI t.1)), some (vI (nI t.2)), some (vI (nI u.1)), some (vI (nI u.2))], [], w6) r0 := by
              refine Rn.cv 60 rfl rfl rfl rfl rfl a1 (by decide) ?_
              refine Rn.at 12 (x := (116, [some (vR (sg 13)), some (vI (nI k)), some (vI (nI ll)), some (vI (nI n)), some (vI (nI (da c nr ti wf t).1)), some (vI (nI (da c nr ti wf t).2)), some (vI (nI u.1)), some (vI (nI u.2))], [], wset (wset w7 (sg 13) 18 (nI u.1)) (sg 13) 19 (nI u.2))) (by rw [← a3.1.1, ← a3.1.2.1]; rfl) ?_
              refine Rn.cv 60 rfl rfl rfl rfl rfl b1 (by decide) ?_
              rw [nI_succ n, ← b3.1.1, ← b3.1.2.1] at d3
              exact Rn.at 8 rfl d3
            refine Rn.if2 60 rfl rfl (fun _ => body) (fun h => ?_)
            dsimp only [tm_c2P] at h
            rw [nI_eq (by omega) (by omega), Classical.not_not] at h
            refine Rn.if2f 60 rfl rfl (by
              dsimp only [tm_c2P]
              rw [nI_eq (by omega) (by omega)]
              exact fun z => c1 (Prod.ext h z)) body
      have i8 : st8 (itN (da c nr ti wf) ll (o, sp)) := itN_in (P := st8) hF (q := (o, sp)) ⟨hd.2.2.1, hd.2.2.2.1⟩ ll
      obtain ⟨w7, x4, x5, x6, x7, m1, m2⟩ := key 30000 0 (o, sp) (itN (da c nr ti wf) ll (o, sp)) (itN (da c nr ti wf) ll (o, sp)) tt w5 hT ((i2.tr j2).tr l2) l3 ⟨hd.2.2.1, hd.2.2.2.1⟩ i8
      refine ⟨w7, x4, x5, x6, x7, m1, fun r0 kk => cm hM ?_⟩
      refine Rn.cs 60 rfl rfl rfl rfl (m_yes (n := 1) (by decide) (by omega)) (by decide) ?_
      refine Rn.if1t 60 rfl rfl (by dsimp only [tm_c2P]; decide) ?_
      refine Rn.cv 60 rfl rfl rfl rfl rfl i1 (by decide) ?_
      refine Rn.cv 60 rfl rfl rfl rfl rfl j1 (by decide) ?_
      refine Rn.at 8 (x := (47, [some (vR (sg 13)), some (vI (nI k)), some (vI (nI ll)), some (vI (nI 0)), some (vI (nI o)), some (vI (nI sp)), none, none], [vI (nI ll), vR (sg 13)], w4)) (by rw [← j3.1, ← j3.2.1]; rfl) ?_
      refine Rn.cv 60 rfl rfl rfl rfl rfl l1 (by decide) ?_
      have m3 := m2 r0 kk
      rw [← l3.1, ← l3.2.1] at m3
      exact Rn.at 6 rfl m3
    rcases (by omega : k = 0 ∨ k = 1) with rfl | rfl
    · have hM2 := (hM.seer f2).seer g2
      obtain ⟨w3, x4, x5, x6, x7, m1, m2⟩ := em hM2
      refine ⟨w2, w3, nI tt, ex ?_, m2 _ ?_, ((hi.seer f2).seer g2).mfr m1⟩
      · refine Rn.if2t 60 rfl rfl (by dsimp only [tm_c2P]; decide) ?_
        refine Rn.cv 60 rfl rfl rfl rfl rfl g1 (by decide) ?_
        exact Rn.ir 60 rfl rfl rfl rfl
      · refine Rn.if1f 60 rfl rfl (by dsimp only [tm_c2P]; decide) ?_
        exact Rn.ir 60 rfl rfl rfl rfl
    · have hM2 := hM.seer f2
      obtain ⟨w3, x4, x5, x6, x7, m1, m2⟩ := em hM2
      refine ⟨w1, w3, nI ll, ex ?_, m2 _ ?_, (hi.seer f2).mfr m1⟩
      · refine Rn.if2f 60 rfl rfl (by dsimp only [tm_c2P]; decide) ?_
        exact Rn.ir 60 rfl rfl rfl rfl
      · refine Rn.if1t 60 rfl rfl (by dsimp only [tm_c2P]; decide) ?_
        exact Rn.ir 60 rfl rfl rfl rfl
  · refine op_same hi (v := -(nI 1000002)) ?_ ?_
    · refine Cl.of rfl rfl rfl (lc := [some (vR (sg 0)), some (vI x), none]) rfl ?_
      refine Rn.cv 60 rfl rfl rfl rfl rfl (x_there hc hci) (by decide) ?_
      rw [decide_eq_false h0]
      refine Rn.if1f 60 rfl rfl (by dsimp only [tm_c2P]; decide) ?_
      exact Rn.ir 60 rfl rfl rfl rfl
    · refine Cl.of rfl rfl rfl (lc := [some (vR (sg 13)), some (vI x), none, none, none, none, none, none]) rfl ?_
      refine Rn.cv 60 rfl rfl rfl rfl rfl (m_hasCity hc hM.pl) (by decide) ?_
      rw [decide_eq_false h0]
      refine Rn.if1f 60 rfl rfl (by dsimp only [tm_c2P]; decide) ?_
      exact Rn.ir 60 rfl rfl rfl rfl
end
section
/-! opened -/
def vlP (P : Nat) (x y : Int32) : Bool := (decide (0 ≤ x) && decide (x < nI P)) && (decide (0 ≤ y) && decide (y ≤ nI 1))
def apN (P : Nat) (X Y : Nat → Int32) : Nat → Nat → Bool
  | 0, _ => true
  | n + 1, k => vlP P (X k) (Y k) && apN P X Y n (k + 1)
theorem x_arePairs {w : Wd} {r : Fin 8} {P i n : Nat} {X Y : Nat → Int32} (h4 : w (cit 0 0) 4 = nI P) (hn : i + 2 * n ≤ 40) (hX : ∀ k, k < n → w (rw_ r 1) (i + 2 * k) = X k) (hY : ∀ k, k < n → w (rw_ r 1) (i + 2 * k + 1) = Y k) : Cl 2 jX_arePairs [vR (sg 0), vR (rw_ r 0), vI (nI i), vI (nI n)] w (some (vI (bI (apN P X Y n 0))), w) := by
  have key : ∀ m k x5, k + m = n → Rn none 1 jX_arePairs (3, [some (vR (sg 0)), some (vR (rw_ r 0)), some (vI (nI i)), some (vI (nI n)), some (vI (nI k)), x5], [], w) (some (vI (bI (apN P X Y m k))), w) := by
    intro m
    induction m with
    | zero =>
      intro k x5 hk
      obtain rfl : k = n := by omega
      refine Rn.if2t 60 rfl rfl (nI_le (Nat.le_refl _) (by omega)) ?_
      exact Rn.zr 60 rfl rfl rfl (by decide) rfl
    | succ m ih =>
      intro k x5 hk
      refine Rn.if2f 60 rfl rfl (nI_ge (by omega) (by omega)) ?_
      refine Rn.al 60 (j := i + 2 * k + 1) rfl rfl rfl (by dsimp only; rw [pk_mul, nI_add, nI_add]) (by omega) ?_
      rw [hY k (by omega)]
      refine Rn.al 60 (j := i + 2 * k) rfl rfl rfl (by dsimp only; rw [pk_mul, nI_add]) (by omega) ?_
      rw [hX k (by omega)]
      have hw := x_within (w := w) (x := X k) (y := nI P)
      rw [← h4] at hw
      refine Rn.cs 60 rfl rfl rfl rfl hw (by decide) ?_
      rw [h4]
      unfold apN vlP
      cases e : decide (0 ≤ X k) && decide (X k < nI P) with
      | false =>
        refine Rn.if1t 60 rfl rfl (by dsimp only [tm_c2P]; decide) ?_
        exact Rn.zr 60 rfl rfl rfl (by decide) rfl
      | true =>
        refine Rn.if1f 60 rfl rfl (by dsimp only [tm_c2P]; decide) ?_
        refine Rn.if1 60 rfl rfl (fun h => ?_) (fun h => ?_)
        · dsimp only [tm_c2P] at h
          rw [decide_eq_false (Int32.not_le.mpr h)]
          exact Rn.zr 60 rfl rfl rfl (by decide) rfl
        · dsimp only [tm_c2P] at h
          rw [decide_eq_true (Int32.not_lt.mp h)]
          have k2 := ih (k + 1) (some (vI (Y k))) (by omega)
          rw [nI_succ k] at k2
          refine Rn.if2 60 rfl rfl (fun h2 => ?_) (fun h2 => ?_)
          · dsimp only [tm_c2P] at h2
            rw [decide_eq_true h2]
            exact Rn.at 2 rfl k2
          · dsimp only [tm_c2P] at h2
            rw [decide_eq_false h2]
            exact Rn.zr 60 rfl rfl rfl (by decide) rfl
  refine Cl.of rfl rfl rfl (lc := [some (vR (sg 0)), some (vR (rw_ r 0)), some (vI (nI i)), some (vI (nI n)), none, none]) rfl ?_
  exact Rn.at 2 rfl (key n 0 none (by omega))
def ptN (pr : Nat → Nat) (iv : Nat → Bool) (b : Bool) : Nat → Nat
  | 0 => 0
  | n + 1 => if iv n = b then ptN pr iv b n ||| 2 ^ pr n else ptN pr iv b n
theorem ptN_lt {pr : Nat → Nat} {iv : Nat → Bool} {b : Bool} : ∀ n, (∀ k, k < n → pr k < 5) → ptN pr iv b n < 32
  | 0, _ => by show 0 < 32; decide
  | n + 1, h => by
    have ih := ptN_lt (pr := pr) (iv := iv) (b := b) n (fun k hk => h k (by omega))
    unfold ptN
    split
    · exact Nat.or_lt_two_pow (n := 5) ih (Nat.pow_lt_pow_right (by decide) (h n (by omega)))
    · exact ih
theorem ptN_bit {pr : Nat → Nat} {iv : Nat → Bool} {b : Bool} : ∀ n j, (ptN pr iv b n).testBit j = true ↔ ∃ k, k < n ∧ iv k = b ∧ pr k = j
  | 0, j => by
    unfold ptN
    rw [Nat.zero_testBit]
    exact ⟨fun z => (by cases z), fun ⟨k, h, _⟩ => absurd h (by omega)⟩
  | n + 1, j => by
    unfold ptN
    split
    · next h =>
      rw [Nat.testBit_or, Bool.or_eq_true, ptN_bit n j]
      constructor
      · rintro (⟨k, h1, h2⟩ | h1)
        · exact ⟨k, by omega, h2⟩
        · exact ⟨n, by omega, h, by
            apply Classical.byContradiction
            intro z
            rw [Nat.testBit_two_pow_of_ne z] at h1
            cases h1⟩
      · rintro ⟨k, h1, h2, h3⟩
        by_cases e : k = n
        · subst e
          subst h3
          exact Or.inr Nat.testBit_two_pow_self
        · exact Or.inl ⟨k, by omega, h2, h3⟩
    · next h =>
      rw [ptN_bit n j]
      constructor
      · rintro ⟨k, h1, h2⟩
        exact ⟨k, by omega, h2⟩
      · rintro ⟨k, h1, h2, h3⟩
        exact ⟨k, by
          by_cases e : k = n
          · subst e
            exact absurd h2 h
          · omega, h2, h3⟩
theorem x_peopleTold {w : Wd} {r : Fin 8} {i n : Nat} {pr : Nat → Nat} {iv : Nat → Bool} (b : Bool) (hn : i + 2 * n ≤ 40) (hX : ∀ k, k < n → w (rw_ r 1) (i + 2 * k) = nI (pr k)) (hY : ∀ k, k < n → w (rw_ r 1) (i + 2 * k + 1) = bI (iv k)) (hp : ∀ k, k < n → pr k < 5) : Cl 1 jX_peopleTold [vR (rw_ r 0), vI (nI i), vI (nI n), vI (bI b)] w (some (vI (nI (ptN pr iv b n))), w) := by
  have key : ∀ m k, k + m = n → Rn none 0 jX_peopleTold (6, [some (vR (rw_ r 0)), some (vI (nI i)), some (vI (nI n)), some (vI (bI b)), some (vI (nI (ptN pr iv b k))), some (vI (nI k))], [], w) (some (vI (nI (ptN pr iv b n))), w) := by
    intro m
    induction m with
    | zero =>
      intro k hk
      obtain rfl : k = n := by omega
      refine Rn.if2t 60 rfl rfl (nI_le (Nat.le_refl _) (by omega)) ?_
      exact Rn.ir 60 rfl rfl rfl rfl
    | succ m ih =>
      intro k hk
      have k2 := ih (k + 1) (by omega)
      rw [nI_succ k] at k2
      refine Rn.if2f 60 rfl rfl (nI_ge (by omega) (by omega)) ?_
      refine Rn.al 60 (j := i + 2 * k + 1) rfl rfl rfl (by dsimp only; rw [pk_mul, nI_add, nI_add]) (by omega) ?_
      rw [hY k (by omega)]
      rw [show ptN pr iv b (k + 1) = if iv k = b then ptN pr iv b k ||| 2 ^ pr k else ptN pr iv b k from rfl] at k2
      by_cases e : iv k = b
      · rw [if_pos e, ← nJ_or, ← nJ_1shl (show pr k < 32 by have := hp k (by omega); omega)] at k2
        refine Rn.if2f 60 rfl rfl (by dsimp only [tm_c2P]; rw [e]; exact fun z => z rfl) ?_
        refine Rn.al 60 (j := i + 2 * k) rfl rfl rfl (by dsimp only; rw [pk_mul, nI_add]) (by omega) ?_
        rw [hX k (by omega)]
        exact Rn.at 5 rfl k2
      · rw [if_neg e] at k2
        refine Rn.if2t 60 rfl rfl (by dsimp only [tm_c2P]; rw [bI_inj]; exact e) ?_
        exact Rn.at 2 rfl k2
  refine Cl.of rfl rfl rfl (lc := [some (vR (rw_ r 0)), some (vI (nI i)), some (vI (nI n)), some (vI (bI b)), none, none]) rfl ?_
  exact Rn.at 4 rfl (key n 0 (by omega))
def alN (pr : Nat → Nat) (iv : Nat → Bool) (s : Nat) : Nat → Bool
  | 0 => true
  | n + 1 => alN pr iv s n && decide (s.testBit (pr n) = iv n)
theorem alN_iff {pr : Nat → Nat} {iv : Nat → Bool} {s : Nat} : ∀ n, alN pr iv s n = true ↔ ∀ k, k < n → s.testBit (pr k) = iv k
  | 0 => ⟨fun _ k hk => absurd hk (by omega), fun _ => rfl⟩
  | n + 1 => by
    unfold alN
    rw [Bool.and_eq_true, alN_iff n, decide_eq_true_eq]
    constructor
    · rintro ⟨h1, h2⟩ k hk
      by_cases e : k = n
      · subst e
        exact h2
      · exact h1 k (by omega)
    · intro h
      exact ⟨fun k hk => h k (by omega), h n (by omega)⟩
theorem fsT_al {c : Nat → Nat} {pr : Nat → Nat} {iv : Nat → Bool} {n s : Nat} : fsT c (ptN pr iv true n) (ptN pr iv false n) s = alN pr iv (bs (gl c s) (c 4)) n := by
  rw [Bool.eq_iff_iff, alN_iff]
  unfold fsT
  generalize bs (gl c s) (c 4) = G
  rw [Bool.and_eq_true, decide_eq_true_eq, decide_eq_true_eq]
  constructor
  · rintro ⟨h1, h2⟩ k hk
    cases e : iv k with
    | true =>
      have hb := (ptN_bit (pr := pr) (iv := iv) (b := true) n (pr k)).mpr ⟨k, hk, e, rfl⟩
      rw [← h1, Nat.testBit_and, Bool.and_eq_true] at hb
      exact hb.1
    | false =>
      have hb := (ptN_bit (pr := pr) (iv := iv) (b := false) n (pr k)).mpr ⟨k, hk, e, rfl⟩
      have h3 : (G &&& ptN pr iv false n).testBit (pr k) = false := by rw [h2]; exact Nat.zero_testBit _
      rw [Nat.testBit_and, hb, Bool.and_true] at h3
      exact h3
  · intro h
    constructor
    · apply Nat.eq_of_testBit_eq
      intro j
      rw [Nat.testBit_and]
      cases e : (ptN pr iv true n).testBit j with
      | false => rw [Bool.and_false]
      | true =>
        obtain ⟨k, h1, h2, h3⟩ := (ptN_bit n j).mp e
        rw [Bool.and_true, ← h3, h k h1, h2]
    · apply Nat.eq_of_testBit_eq
      intro j
      rw [Nat.testBit_and, Nat.zero_testBit]
      cases e : (ptN pr iv false n).testBit j with
      | false => rw [Bool.and_false]
      | true =>
        obtain ⟨k, h1, h2, h3⟩ := (ptN_bit n j).mp e
        rw [Bool.and_true, ← h3, h k h1, h2]
def saS (q : Nat × Nat × Nat) (k : Nat) : Int32 := if k = 0 then nI q.1 else if q.1 = 0 then -(nI 1000000) else if k = 1 then nI q.2.1 else nI q.2.2
theorem x_setsAnswer {w : Wd} {q : Nat × Nat × Nat} {k : Nat} (h : FsIs w q) (hq : q.1 < 2 ^ 31) (hk : k < 3) : Cl 1 jX_setsAnswer [vR (sg 0), vI (nI k)] w (some (vI (saS q k)), w) := by
  obtain ⟨h1, h2, h3⟩ := h
  refine Cl.of rfl rfl rfl (lc := [some (vR (sg 0)), some (vI (nI k))]) rfl ?_
  unfold saS
  by_cases e0 : k = 0
  · rw [if_pos e0]
    refine Rn.if1f 60 rfl rfl (by dsimp only [tm_c2P]; rw [e0]; decide) ?_
    rw [← h1]
    exact Rn.ir 60 rfl rfl rfl rfl
  · rw [if_neg e0]
    refine Rn.if1t 60 rfl rfl (nI_ne0 (by omega) (by omega)) ?_
    by_cases e1 : q.1 = 0
    · rw [if_pos e1]
      refine Rn.if1f 60 rfl rfl (by dsimp only [tm_c2P]; rw [h1, e1]; decide) ?_
      exact Rn.ir 60 rfl rfl rfl rfl
    · rw [if_neg e1]
      refine Rn.if1t 60 rfl rfl (by dsimp only [tm_c2P]; rw [h1]; exact nI_ne0 (by omega) hq) ?_
      by_cases e2 : k = 1
      · rw [if_pos e2]
        refine Rn.if2f 60 rfl rfl (by dsimp only [tm_c2P]; rw [e2]; exact fun z => z rfl) ?_
        rw [← h2]
        exact Rn.ir 60 rfl rfl rfl rfl
      · rw [if_neg e2]
        refine Rn.if2t 60 rfl rfl (by dsimp only [tm_c2P]; rw [nI_eq (by omega) (by decide)]; exact e2) ?_
        rw [← h3]
        exact Rn.ir 60 rfl rfl rfl rfl
end
section
/-! opened, asked of both -/
theorem vlP_yes {P p : Nat} {b : Bool} (hP : P < 2 ^ 31) (h : p < P) : vlP P (nI p) (bI b) = true := by
  unfold vlP
  rw [decide_eq_true (nI_pos' (by omega)), decide_eq_true (nI_lt h hP)]
  cases b <;> decide
theorem vlP_of {P : Nat} {x y : Int32} (hP : P < 2 ^ 31) (h : vlP P x y = true) : x.toNatClampNeg < P ∧ x = nI x.toNatClampNeg ∧ y = bI (decide (y = nI 1)) := by
  unfold vlP at h
  simp only [Bool.and_eq_true, decide_eq_true_eq] at h
  obtain ⟨⟨h1, h2⟩, h3, h4⟩ := h
  obtain ⟨j, hj, rfl⟩ := nI_of (Int32.not_lt.mpr h1)
  obtain ⟨k, hk, rfl⟩ := nI_of (Int32.not_lt.mpr h3)
  rw [nJ_lt hj hP] at h2
  rw [nJ_le hk (by decide)] at h4
  refine ⟨by rw [nI_clamp hj]; exact h2, by rw [nI_clamp hj], ?_⟩
  rcases (by omega : k = 0 ∨ k = 1) with rfl | rfl
  · decide
  · decide
theorem apN_all {P : Nat} {X Y : Nat → Int32} : ∀ n k, apN P X Y n k = true → ∀ j, k ≤ j → j < k + n → vlP P (X j) (Y j) = true
  | 0, k, _, j, h1, h2 => absurd h2 (by omega)
  | n + 1, k, h, j, h1, h2 => by
    unfold apN at h
    rw [Bool.and_eq_true] at h
    by_cases e : j = k
    · subst e
      exact h.1
    · exact apN_all n (k + 1) h.2 j (by omega) (by omega)
theorem m_pis {w : Wd} {c : Nat → Nat} {x : Int32} (hc : PlOk c) (h : MPl w c) : Cl 2 jM_isPerson [vR (sg 13), vI x] w (some (vI (bI (decide (0 ≤ x) && decide (x < nI (c 4))))), w) := by
  have hc4 := hc.2.2.1
  rcases pk_or (x := x) (n := c 4) (by omega) with h1 | ⟨p, hp, rfl⟩
  · have k := m_pno hc h h1
    rw [show (decide (0 ≤ x) && decide (x < nI (c 4))) = false from by
      rcases h1 with h1 | h1
      · rw [decide_eq_false (Int32.not_le.mpr h1), Bool.false_and]
      · rw [decide_eq_false (Int32.not_lt.mpr h1), Bool.and_false]]
    exact k
  · have k := m_pyes hc h hp
    rw [decide_eq_true (nI_pos' (by omega)), decide_eq_true (nI_lt hp (by omega))]
    exact k
def opW (x6 x7 x8 x9 x10 x11 x12 x13 : Option AV) (r i n k fr : Nat) : Lc := [some (vR (sg 13)), some (vI (nI r)), some (vI (nI i)), some (vI (nI n)), some (vI (nI k)), some (vI (nI fr)), x6, x7, x8, x9, x10, x11, x12, x13]
/-- the pairs looked through -/
theorem m_pairs {w : Wd} {c : Nat → Nat} {r i n k : Nat} {X Y : Nat → Int32} (hc : PlOk c) (h : MPl w c) (hr : r < 8) (hn : i + 2 * n ≤ 40) (hX : ∀ k, k < n → w (sg 16) (40 * r + (i + 2 * k)) = X k) (hY : ∀ k, k < n → w (sg 16) (40 * r + (i + 2 * k + 1)) = Y k) {x7 x8 x9 x10 x11 x12 x13 : Option AV} {r0 : Rs} (kt : apN (c 4) X Y n 0 = true → Rn none 19 jM_opened (146, opW (some (vI (nI n))) x7 x8 x9 x10 x11 x12 x13 r i n k (40 * r + i), [], w) r0) (kf : apN (c 4) X Y n 0 = false → ∀ x6, Rn none 19 jM_opened (137, opW x6 x7 x8 x9 x10 x11 x12 x13 r i n k (40 * r + i), [], w) r0) : Rn none 19 jM_opened (90, opW (some (vI (nI 0))) x7 x8 x9 x10 x11 x12 x13 r i n k (40 * r + i), [], w) r0 := by
  generalize hA : apN (c 4) X Y n 0 = A at kt kf
  have key : ∀ m q, q + m = n → A = apN (c 4) X Y m q → Rn none 19 jM_opened (90, opW (some (vI (nI q))) x7 x8 x9 x10 x11 x12 x13 r i n k (40 * r + i), [], w) r0 := by
    intro m
    induction m with
    | zero =>
      intro q hq e
      obtain rfl : q = n := by omega
      refine Rn.if2t 60 rfl rfl (nI_le (Nat.le_refl _) (by omega)) ?_
      exact kt e
    | succ m ih =>
      intro q hq e
      unfold apN vlP at e
      rw [e] at kt kf
      refine Rn.if2f 60 rfl rfl (nI_ge (by omega) (by omega)) ?_
      refine Rn.al 60 (j := 40 * r + (i + 2 * q)) rfl rfl rfl (by dsimp only; rw [pk_mul, nI_add, Nat.add_assoc]) (by omega) ?_
      rw [hX q (by omega)]
      refine Rn.cv 60 rfl rfl rfl rfl rfl (m_pis hc h) (by decide) ?_
      cases e1 : decide (0 ≤ X q) && decide (X q < nI (c 4)) with
      | false =>
        rw [e1] at kf
        refine Rn.if1t 60 rfl rfl (by dsimp only [tm_c2P]; decide) ?_
        exact kf rfl _
      | true =>
        rw [e1] at kf kt
        refine Rn.if1f 60 rfl rfl (by dsimp only [tm_c2P]; decide) ?_
        refine Rn.al 60 (j := 40 * r + (i + 2 * q + 1)) rfl rfl rfl (by dsimp only; rw [pk_mul, nI_add, nI_add, show 40 * r + i + 2 * q + 1 = 40 * r + (i + 2 * q + 1) by omega]) (by omega) ?_
        rw [hY q (by omega)]
        refine Rn.cs 60 rfl rfl rfl rfl m_in (by decide) ?_
        have z0 : decide (nI 0 ≤ Y q) = decide (0 ≤ Y q) := rfl
        rw [z0]
        cases e2 : decide (0 ≤ Y q) && decide (Y q ≤ nI 1) with
        | false =>
          rw [e2] at kf
          refine Rn.if1f 60 rfl rfl (by dsimp only [tm_c2P]; decide) ?_
          exact kf rfl _
        | true =>
          rw [e1, e2] at e
          have k2 := ih (q + 1) (by omega) e
          refine Rn.if1t 60 rfl rfl (by dsimp only [tm_c2P]; decide) ?_
          unfold opW at k2
          rw [nI_succ q] at k2
          exact Rn.at 2 rfl k2
  exact key n 0 (by omega) hA.symm
/-- what is held of a number of sets -/
def sbA (A : Nat) (q : Nat × Nat × Nat) : Prop := q.2.1 &&& A = q.2.1 ∧ q.2.2 &&& A = q.2.2
theorem sbA_Q {t : Nat → Bool} {A s : Nat} {q : Nat × Nat × Nat} (h : sbA A q) : sbA A (fsQ t s q) := by
  unfold fsQ
  split
  · refine ⟨?_, ?_⟩
    · show (q.2.1 &&& s) &&& A = q.2.1 &&& s
      rw [Nat.and_assoc, Nat.and_comm s A, ← Nat.and_assoc, h.1]
    · show (q.2.2 &&& (s ^^^ 4294967295)) &&& A = q.2.2 &&& (s ^^^ 4294967295)
      rw [Nat.and_assoc, Nat.and_comm (s ^^^ 4294967295) A, ← Nat.and_assoc, h.2]
  · exact h
/-- one set of gates, tried by the reference -/
theorem m_oneset {w : Wd} {c : Nat → Nat} {r i n k s A : Nat} {pr : Nat → Nat} {iv : Nat → Bool} {q : Nat × Nat × Nat} (hc : PlOk c) (h : MPl w c) (hr : r < 8) (hn : i + 2 * n ≤ 40) (hX : ∀ k, k < n → w (sg 16) (40 * r + (i + 2 * k)) = nI (pr k)) (hY : ∀ k, k < n → w (sg 16) (40 * r + (i + 2 * k + 1)) = bI (iv k)) (hp : ∀ k, k < n → pr k < 5) (hs : s ≤ A) (hA : A < 256) (hq : sbA A q) {x11 x12 x13 : Option AV} {r0 : Rs} (kk : ∀ x11 x12 x13, Rn none 19 jM_opened (171, opW (some (vI (nI A))) (some (vI (nI (fsQ (fun s => alN pr iv (bs (gl c s) (c 4)) n) s q).1))) (some (vI (nI (fsQ (fun s => alN pr iv (bs (gl c s) (c 4)) n) s q).2.1))) (some (vI (nI (fsQ (fun s => alN pr iv (bs (gl c s) (c 4)) n) s q).2.2))) (some (vI (nI (s + 1)))) x11 x12 x13 r i n k (40 * r + i), [], w) r0) : Rn none 19 jM_opened (171, opW (some (vI (nI A))) (some (vI (nI q.1))) (some (vI (nI q.2.1))) (some (vI (nI q.2.2))) (some (vI (nI s))) x11 x12 x13 r i n k (40 * r + i), [], w) r0 := by
  have hc4 := hc.2.2.1
  have hG : bs (gl c s) (c 4) < 32 := bs_lt hc4
  have key : ∀ m p, p + m = n → Rn none 19 jM_opened (192, opW (some (vI (nI A))) (some (vI (nI q.1))) (some (vI (nI q.2.1))) (some (vI (nI q.2.2))) (some (vI (nI s))) (some (vI (nI (bs (gl c s) (c 4))))) (some (vI (bI (alN pr iv (bs (gl c s) (c 4)) p)))) (some (vI (nI p))) r i n k (40 * r + i), [], w) r0 := by
    intro m
    induction m with
    | zero =>
      intro p hpn
      obtain rfl : p = n := by omega
      refine Rn.if2t 60 rfl rfl (nI_le (Nat.le_refl _) (by omega)) ?_
      have k1 := kk (some (vI (nI (bs (gl c s) (c 4))))) (some (vI (bI (alN pr iv (bs (gl c s) (c 4)) p)))) (some (vI (nI p)))
      cases e : alN pr iv (bs (gl c s) (c 4)) p with
      | true =>
        have eq1 : fsQ (fun s => alN pr iv (bs (gl c s) (c 4)) p) s q = (q.1 + 1, q.2.1 &&& s, q.2.2 &&& (s ^^^ 4294967295)) := if_pos e
        rw [eq1, e] at k1
        have ee : nI (q.2.2 &&& (s ^^^ 4294967295)) = (nI A &&& (nI s ^^^ -(nI 1))) &&& nI q.2.2 := by
          rw [m1_nI, nJ_xor, nJ_and, nJ_and, Nat.and_comm _ q.2.2, ← Nat.and_assoc, hq.2]
        have e2 : nI (q.2.1 &&& s) = nI q.2.1 &&& nI s := (nJ_and _ _).symm
        have e3 : nI (q.2.2 &&& (s ^^^ 4294967295)) = nI q.2.2 &&& (nI A &&& (nI s ^^^ -(nI 1))) := by
          rw [m1_nI, nJ_xor, nJ_and, nJ_and, ← Nat.and_assoc, hq.2]
        unfold opW at k1
        dsimp only at k1
        rw [e2, e3, ← nI_add q.1 1, nI_succ s] at k1
        refine Rn.if1f 60 rfl rfl (by dsimp only [tm_c2P]; decide) ?_
        refine Rn.if1f 60 rfl rfl (by dsimp only [tm_c2P]; decide) ?_
        refine Rn.if1f 60 rfl rfl (by dsimp only [tm_c2P]; decide) ?_
        exact Rn.at 10 rfl k1
      | false =>
        have eq1 : fsQ (fun s => alN pr iv (bs (gl c s) (c 4)) p) s q = q := if_neg (by show ¬ alN pr iv (bs (gl c s) (c 4)) p = true; rw [e]; decide)
        rw [eq1, e] at k1
        have e2 : nI q.2.1 = nI q.2.1 &&& nI A := by rw [nJ_and, hq.1]
        have e3 : nI q.2.2 = nI q.2.2 &&& nI A := by rw [nJ_and, hq.2]
        have e1 : nI q.1 = nI q.1 + nI 0 := by rw [nI_add, Nat.add_zero]
        unfold opW at k1
        rw [e1, e2, e3, nI_succ s] at k1
        refine Rn.if1t 60 rfl rfl (by dsimp only [tm_c2P]; decide) ?_
        refine Rn.if1t 60 rfl rfl (by dsimp only [tm_c2P]; decide) ?_
        refine Rn.if1t 60 rfl rfl (by dsimp only [tm_c2P]; decide) ?_
        exact Rn.at 5 rfl k1
    | succ m ih =>
      intro p hpn
      have k1 := ih (p + 1) (by omega)
      rw [show alN pr iv (bs (gl c s) (c 4)) (p + 1) = (alN pr iv (bs (gl c s) (c 4)) p && decide ((bs (gl c s) (c 4)).testBit (pr p) = iv p)) from rfl] at k1
      unfold opW at k1
      rw [nI_succ p] at k1
      refine Rn.if2f 60 rfl rfl (nI_ge (by omega) (by omega)) ?_
      cases e : alN pr iv (bs (gl c s) (c 4)) p with
      | false =>
        rw [e, Bool.false_and] at k1
        refine Rn.if1t 60 rfl rfl (by dsimp only [tm_c2P]; decide) ?_
        exact Rn.at 4 rfl k1
      | true =>
        rw [e, Bool.true_and] at k1
        refine Rn.if1f 60 rfl rfl (by dsimp only [tm_c2P]; decide) ?_
        refine Rn.al 60 (j := 40 * r + (i + 2 * p)) rfl rfl rfl (by dsimp only; rw [pk_mul, nI_add, Nat.add_assoc]) (by omega) ?_
        rw [hX p (by omega)]
        refine Rn.al 60 (j := 40 * r + (i + 2 * p + 1)) rfl rfl rfl (by dsimp only; rw [pk_mul, nI_add, nI_add, show 40 * r + i + 2 * p + 1 = 40 * r + (i + 2 * p + 1) by omega]) (by omega) ?_
        rw [hY p (by omega)]
        have p5 := hp p (by omega)
        by_cases eb : (bs (gl c s) (c 4)).testBit (pr p) = iv p
        · rw [decide_eq_true eb] at k1
          refine Rn.if2f 60 rfl rfl (by dsimp only [tm_c2P]; rw [nJ_bit (by omega) (by omega), eb]; exact fun z => z rfl) ?_
          exact Rn.at 5 rfl k1
        · rw [decide_eq_false eb] at k1
          refine Rn.if2t 60 rfl rfl (by dsimp only [tm_c2P]; rw [nJ_bit (by omega) (by omega), bI_inj]; exact eb) ?_
          exact Rn.at 4 rfl k1
  refine Rn.if2f 60 rfl rfl (nI_nlt hs (by omega)) ?_
  refine Rn.cv 60 rfl rfl rfl rfl rfl (m_gladBy hc h (show s < 256 by omega)) (by decide) ?_
  exact Rn.at 5 rfl (key n 0 (by omega))
end
section
/-! opened: the call -/
theorem fsN_le {t : Nat → Bool} : ∀ n s q, (fsN t n s q).1 ≤ q.1 + n
  | 0, _, _ => Nat.le_refl _
  | n + 1, s, q => by
    unfold fsN
    have ih := fsN_le (t := t) n (s + 1) (fsQ t s q)
    have : (fsQ t s q).1 ≤ q.1 + 1 := by
      unfold fsQ
      split
      · exact Nat.le_refl _
      · exact Nat.le_succ _
    omega
theorem fsN_congr {t t' : Nat → Bool} (h : ∀ s, t s = t' s) : ∀ n s q, fsN t n s q = fsN t' n s q := by
  have e : t = t' := funext h
  subst e
  exact fun _ _ _ => rfl
theorem m_sets {w : Wd} {c : Nat → Nat} {r i n k A : Nat} {pr : Nat → Nat} {iv : Nat → Bool} (hc : PlOk c) (h : MPl w c) (hr : r < 8) (hn : i + 2 * n ≤ 40) (hX : ∀ k, k < n → w (sg 16) (40 * r + (i + 2 * k)) = nI (pr k)) (hY : ∀ k, k < n → w (sg 16) (40 * r + (i + 2 * k + 1)) = bI (iv k)) (hp : ∀ k, k < n → pr k < 5) (hA : A < 256) {r0 : Rs} : ∀ m s q x11 x12 x13, s + m = A + 1 → sbA A q → (∀ x11 x12 x13, Rn none 19 jM_opened (310, opW (some (vI (nI A))) (some (vI (nI (fsN (fun s => alN pr iv (bs (gl c s) (c 4)) n) m s q).1))) (some (vI (nI (fsN (fun s => alN pr iv (bs (gl c s) (c 4)) n) m s q).2.1))) (some (vI (nI (fsN (fun s => alN pr iv (bs (gl c s) (c 4)) n) m s q).2.2))) (some (vI (nI (A + 1)))) x11 x12 x13 r i n k (40 * r + i), [], w) r0) → Rn none 19 jM_opened (171, opW (some (vI (nI A))) (some (vI (nI q.1))) (some (vI (nI q.2.1))) (some (vI (nI q.2.2))) (some (vI (nI s))) x11 x12 x13 r i n k (40 * r + i), [], w) r0 := by
  intro m
  induction m with
  | zero =>
    intro s q x11 x12 x13 hs hq kk
    obtain rfl : s = A + 1 := by omega
    refine Rn.if2t 60 rfl rfl (nI_lt (Nat.lt_succ_self A) (by omega)) ?_
    exact kk _ _ _
  | succ m ih =>
    intro s q x11 x12 x13 hs hq kk
    refine m_oneset hc h hr hn hX hY hp (show s ≤ A by omega) hA hq (fun x11 x12 x13 => ?_)
    exact ih (s + 1) _ x11 x12 x13 (by omega) (sbA_Q hq) kk
theorem op_opened {x y z v : Int32} : Op jX_opened jM_opened [vI x, vI y, vI z, vI v] := by
  intro w hi
  obtain ⟨hb, c, nr, ti, o, sp, dy, wf, hok, hci, hma, hact⟩ := id hi.2.2.2.2.2
  have hM : Mt w c nr ti o sp dy wf := ⟨hb, hma⟩
  have hc := hok.1
  have hd := hok.2.1
  have hc0 := hc.1
  have hc3 := hc.2.1
  have hc4 := hc.2.2.1
  have hp3 : 2 ^ c 3 ≤ 256 := Nat.pow_le_pow_right (n := 2) (by decide) hc3
  have hp1 : 1 ≤ 2 ^ c 3 := Nat.one_le_two_pow
  by_cases h0 : 0 < c 0
  · have cx : ∀ {r0 : Rs}, Rn none 19 jX_opened (13, [some (vR (sg 0)), some (vI x), some (vI y), some (vI z), some (vI v), none], [], w) r0 → Cl 20 jX_opened [vR (sg 0), vI x, vI y, vI z, vI v] w r0 := by
      intro r0 k
      refine Cl.of rfl rfl rfl (lc := [some (vR (sg 0)), some (vI x), some (vI y), some (vI z), some (vI v), none]) rfl ?_
      refine Rn.cv 60 rfl rfl rfl rfl rfl (x_there hc hci) (by decide) ?_
      rw [decide_eq_true h0]
      exact Rn.if1t 60 rfl rfl (by dsimp only [tm_c2P]; decide) k
    have cm : ∀ {w : Wd} {r0 : Rs}, MPl w c → Rn none 19 jM_opened (10, [some (vR (sg 13)), some (vI x), some (vI y), some (vI z), some (vI v), none, none, none, none, none, none, none, none, none], [], w) r0 → Cl 20 jM_opened [vR (sg 13), vI x, vI y, vI z, vI v] w r0 := by
      intro w r0 hM k
      refine Cl.of rfl rfl rfl (lc := [some (vR (sg 13)), some (vI x), some (vI y), some (vI z), some (vI v), none, none, none, none, none, none, none, none, none]) rfl ?_
      refine Rn.cv 60 rfl rfl rfl rfl rfl (m_hasCity hc hM) (by decide) ?_
      rw [decide_eq_true h0]
      exact Rn.if1t 60 rfl rfl (by dsimp only [tm_c2P]; decide) k
    rcases pk_or (x := x) (n := 8) (by omega) with h1 | ⟨r, hr, rfl⟩
    · refine op_same hi (v := -(nI 1000001)) (cx ?_) (cm hM.pl ?_)
      · refine Rn.cs 60 rfl rfl rfl rfl (x_no (by decide) h1) (by decide) ?_
        refine Rn.if1t 60 rfl rfl (by dsimp only [tm_c2P]; decide) ?_
        exact Rn.ir 60 rfl rfl rfl rfl
      · refine Rn.cs 60 rfl rfl rfl rfl (m_isRow_no h1) (by decide) ?_
        refine Rn.if1t 60 rfl rfl (by dsimp only [tm_c2P]; decide) ?_
        exact Rn.ir 60 rfl rfl rfl rfl
    rcases pk_or (x := z) (n := 11) (by omega) with h1 | ⟨n, hn, rfl⟩
    · refine op_same hi (v := -(nI 1000001)) (cx ?_) (cm hM.pl ?_)
      · refine Rn.cs 60 rfl rfl rfl rfl (x_yes (by decide) hr) (by decide) ?_
        refine Rn.if1f 60 rfl rfl (by dsimp only [tm_c2P]; decide) ?_
        refine Rn.if1 60 rfl rfl (fun _ => Rn.ir 60 rfl rfl rfl rfl) (fun h2 => ?_)
        refine Rn.if2t 60 rfl rfl (nI_lt1 (n := 10) (by decide) (h1.resolve_left h2)) ?_
        exact Rn.ir 60 rfl rfl rfl rfl
      · refine Rn.cs 60 rfl rfl rfl rfl (m_isRow_yes hr) (by decide) ?_
        refine Rn.if1f 60 rfl rfl (by dsimp only [tm_c2P]; decide) ?_
        refine Rn.cs 60 rfl rfl rfl rfl (m_no (n := 10) (by decide) h1) (by decide) ?_
        refine Rn.if1t 60 rfl rfl (by dsimp only [tm_c2P]; decide) ?_
        exact Rn.ir 60 rfl rfl rfl rfl
    have dx : ∀ {r0 : Rs}, Rn none 19 jX_opened (32, [some (vR (sg 0)), some (vI (nI r)), some (vI y), some (vI (nI n)), some (vI v), none], [], w) r0 → Cl 20 jX_opened [vR (sg 0), vI (nI r), vI y, vI (nI n), vI v] w r0 := by
      intro r0 k
      refine cx ?_
      refine Rn.cs 60 rfl rfl rfl rfl (x_yes (by decide) hr) (by decide) ?_
      refine Rn.if1f 60 rfl rfl (by dsimp only [tm_c2P]; decide) ?_
      refine Rn.if1f 60 rfl rfl (nI_pos (by omega)) ?_
      exact Rn.if2f 60 rfl rfl (nI_nlt (by omega) (by omega)) k
    have dm : ∀ {w : Wd} {r0 : Rs}, MPl w c → Rn none 19 jM_opened (27, [some (vR (sg 13)), some (vI (nI r)), some (vI y), some (vI (nI n)), some (vI v), none, none, none, none, none, none, none, none, none], [], w) r0 → Cl 20 jM_opened [vR (sg 13), vI (nI r), vI y, vI (nI n), vI v] w r0 := by
      intro w r0 hM k
      refine cm hM ?_
      refine Rn.cs 60 rfl rfl rfl rfl (m_isRow_yes hr) (by decide) ?_
      refine Rn.if1f 60 rfl rfl (by dsimp only [tm_c2P]; decide) ?_
      refine Rn.cs 60 rfl rfl rfl rfl (m_yes (n := 10) (by decide) (by omega)) (by decide) ?_
      exact Rn.if1f 60 rfl rfl (by dsimp only [tm_c2P]; decide) k
    rcases pk_or (x := v) (n := 3) (by omega) with h1 | ⟨k, hk, rfl⟩
    · refine op_same hi (v := -(nI 1000001)) (dx ?_) (dm hM.pl ?_)
      · refine Rn.if1 60 rfl rfl (fun _ => Rn.ir 60 rfl rfl rfl rfl) (fun h2 => ?_)
        refine Rn.if2f 60 rfl rfl (Int32.not_le.mpr (nI_lt1 (n := 2) (by decide) (h1.resolve_left h2))) ?_
        exact Rn.ir 60 rfl rfl rfl rfl
      · refine Rn.cs 60 rfl rfl rfl rfl (m_no (n := 2) (by decide) h1) (by decide) ?_
        refine Rn.if1f 60 rfl rfl (by dsimp only [tm_c2P]; decide) ?_
        exact Rn.ir 60 rfl rfl rfl rfl
    have ex : ∀ {r0 : Rs}, Rn none 19 jX_opened (54, [some (vR (sg 0)), some (vI (nI r)), some (vI y), some (vI (nI n)), some (vI (nI k)), some (vR (rw_ (Fin.ofNat 8 r) 0))], [], w) r0 → Cl 20 jX_opened [vR (sg 0), vI (nI r), vI y, vI (nI n), vI (nI k)] w r0 := by
      intro r0 kk
      refine dx ?_
      refine Rn.if1f 60 rfl rfl (nI_pos (by omega)) ?_
      refine Rn.if2t 60 rfl rfl (nI_le (by omega) (by decide)) ?_
      refine Rn.row 60 rfl rfl rfl hr ?_
      exact Rn.at 1 rfl kk
    have em : ∀ {w : Wd} {r0 : Rs}, MPl w c → Rn none 19 jM_opened (46, [some (vR (sg 13)), some (vI (nI r)), some (vI y), some (vI (nI n)), some (vI (nI k)), none, none, none, none, none, none, none, none, none], [vI (w (sg 14) r)], w) r0 → Cl 20 jM_opened [vR (sg 13), vI (nI r), vI y, vI (nI n), vI (nI k)] w r0 := by
      intro w r0 hM kk
      refine dm hM ?_
      refine Rn.cs 60 rfl rfl rfl rfl (m_yes (n := 2) (by decide) (by omega)) (by decide) ?_
      refine Rn.if1t 60 rfl rfl (by dsimp only [tm_c2P]; decide) ?_
      exact Rn.al 60 rfl rfl rfl rfl hr kk
    have hpl2 : ∀ x, MPl (wset w (sg 0) 8 x) c := fun x => hM.pl.fr (by rw [wset_ne (by decide)]) (wset_ne (by decide))
    rcases hi.2.1 r hr with ⟨g1, g2⟩ | ⟨g1, l, L, hl, hL, g2, g3, g4, g5, g6⟩
    · refine op_found hi (x := nI 1) (v := -(nI 1000010) - nI 1) (ex ?_) (em (hpl2 _) ?_)
      · refine Rn.if1f 60 rfl rfl (by rw [g1]; dsimp only [tm_c2P]; decide) ?_
        refine Rn.cv 60 rfl rfl rfl rfl rfl x_found (by decide) ?_
        exact Rn.ir 60 rfl rfl rfl rfl
      · rw [wset_ne (show sg 14 ≠ sg 0 by decide), g2]
        refine Rn.if1f 60 rfl rfl (by dsimp only [tm_c2P]; decide) ?_
        refine Rn.cv 60 rfl rfl rfl rfl rfl m_finds (by decide) ?_
        exact Rn.ir 60 rfl rfl rfl rfl
    have gl0 : ¬ nI (l + 1) = 0 := nI_ne0 (by omega) (by omega)
    have e2n : nI 2 * nI n = nI (2 * n) := pk_mul 2 n
    have fx : ∀ {r0 : Rs} {b : Bool}, Cl 1 jR_hasPlaces [vR (rw_ (Fin.ofNat 8 r) 0), vI y, vI (nI (2 * n))] w (some (vI (bI b)), w) → Rn none 19 jX_opened (77, [some (vR (sg 0)), some (vI (nI r)), some (vI y), some (vI (nI n)), some (vI (nI k)), some (vR (rw_ (Fin.ofNat 8 r) 0))], [vI (bI b)], w) r0 → Cl 20 jX_opened [vR (sg 0), vI (nI r), vI y, vI (nI n), vI (nI k)] w r0 := by
      intro r0 b hcl kk
      refine ex ?_
      refine Rn.if1t 60 rfl rfl (by rw [g1]; dsimp only [tm_c2P]; decide) ?_
      rw [← e2n] at hcl
      exact Rn.cv 60 rfl rfl rfl rfl rfl hcl (by decide) kk
    have fm : ∀ {w : Wd} {r0 : Rs}, w (sg 14) r = nI (l + 1) → MPl w c → Rn none 19 jM_opened (55, [some (vR (sg 13)), some (vI (nI r)), some (vI y), some (vI (nI n)), some (vI (nI k)), none, none, none, none, none, none, none, none, none], [], w) r0 → Cl 20 jM_opened [vR (sg 13), vI (nI r), vI y, vI (nI n), vI (nI k)] w r0 := by
      intro w r0 e14 hM kk
      refine em hM ?_
      rw [e14]
      exact Rn.if1t 60 rfl rfl gl0 kk
    rcases place_or y (nI (2 * n)) L with ⟨i, n2, rfl, en, hin⟩ | hno
    · obtain rfl : n2 = 2 * n := by
        rw [nI_eq (by omega) (by omega)] at en
        exact en.symm
      have gx : ∀ {r0 : Rs}, Rn none 19 jX_opened (86, [some (vR (sg 0)), some (vI (nI r)), some (vI (nI i)), some (vI (nI n)), some (vI (nI k)), some (vR (rw_ (Fin.ofNat 8 r) 0))], [], w) r0 → Cl 20 jX_opened [vR (sg 0), vI (nI r), vI (nI i), vI (nI n), vI (nI k)] w r0 := by
        intro r0 kk
        refine fx (sp_hasYes (by omega) g4 hin) ?_
        exact Rn.if1t 60 rfl rfl (by dsimp only [tm_c2P]; decide) kk
      have gm : ∀ {w : Wd} {r0 : Rs}, w (sg 14) r = nI (l + 1) → w (sg 15) r = nI L → MPl w c → Rn none 19 jM_opened (90, opW (some (vI (nI 0))) none none none none none none none r i n k (40 * r + i), [], w) r0 → Cl 20 jM_opened [vR (sg 13), vI (nI r), vI (nI i), vI (nI n), vI (nI k)] w r0 := by
        intro w r0 e14 e15 hM kk
        refine fm e14 hM ?_
        refine Rn.if1f 60 rfl rfl (nI_pos (by omega)) ?_
        refine Rn.al 60 rfl rfl rfl rfl hr ?_
        refine Rn.if2t 60 rfl rfl (by dsimp only [tm_c2P]; rw [e15, e2n, pk_sub (by omega)]; exact nI_le (by omega) (by omega)) ?_
        unfold opW at kk
        rw [← nI_add, ← pk_mul] at kk
        exact Rn.at 8 rfl kk
      have hX : ∀ q, q < n → w (rw_ (Fin.ofNat 8 r) 1) (i + 2 * q) = w (sg 16) (40 * r + (i + 2 * q)) := fun q hq => g6 _ (by omega)
      have hY : ∀ q, q < n → w (rw_ (Fin.ofNat 8 r) 1) (i + 2 * q + 1) = w (sg 16) (40 * r + (i + 2 * q + 1)) := fun q hq => g6 _ (by omega)
      have ap := x_arePairs (X := fun q => w (sg 16) (40 * r + (i + 2 * q))) (Y := fun q => w (sg 16) (40 * r + (i + 2 * q + 1))) hci.1.2.2.1 (show i + 2 * n ≤ 40 by omega) hX hY
      cases ha : apN (c 4) (fun q => w (sg 16) (40 * r + (i + 2 * q))) (fun q => w (sg 16) (40 * r + (i + 2 * q + 1))) n 0 with
      | false =>
        rw [ha] at ap
        refine op_same hi (v := -(nI 1000001)) (gx ?_) (gm g3 g5 hM.pl ?_)
        · refine Rn.cv 60 rfl rfl rfl rfl rfl ap (by decide) ?_
          refine Rn.if1f 60 rfl rfl (by dsimp only [tm_c2P]; decide) ?_
          exact Rn.ir 60 rfl rfl rfl rfl
        · refine m_pairs hc hM.pl hr (by omega) (fun q hq => rfl) (fun q hq => rfl) (fun z => ?_) (fun _ x6 => ?_)
          · rw [ha] at z
            cases z
          · exact Rn.ir 60 rfl rfl rfl rfl
      | true =>
        rw [ha] at ap
        have hv : ∀ q, q < n → (w (sg 16) (40 * r + (i + 2 * q))).toNatClampNeg < c 4 ∧ w (sg 16) (40 * r + (i + 2 * q)) = nI (w (sg 16) (40 * r + (i + 2 * q))).toNatClampNeg ∧ w (sg 16) (40 * r + (i + 2 * q + 1)) = bI (decide (w (sg 16) (40 * r + (i + 2 * q + 1)) = nI 1)) := fun q hq => vlP_of (by omega) (apN_all n 0 ha q (by omega) (by omega))
        obtain ⟨pr, hpr⟩ : ∃ pr : Nat → Nat, ∀ q, pr q = (w (sg 16) (40 * r + (i + 2 * q))).toNatClampNeg := ⟨_, fun _ => rfl⟩
        obtain ⟨iv, hiv⟩ : ∃ iv : Nat → Bool, ∀ q, iv q = decide (w (sg 16) (40 * r + (i + 2 * q + 1)) = nI 1) := ⟨_, fun _ => rfl⟩
        have hA' : ∀ q, q < n → w (sg 16) (40 * r + (i + 2 * q)) = nI (pr q) := fun q hq => by rw [hpr]; exact (hv q hq).2.1
        have hB' : ∀ q, q < n → w (sg 16) (40 * r + (i + 2 * q + 1)) = bI (iv q) := fun q hq => by rw [hiv]; exact (hv q hq).2.2
        have hp5 : ∀ q, q < n → pr q < 5 := fun q hq => by have := (hv q hq).1; rw [hpr]; omega
        have t1 := x_peopleTold (w := w) (pr := pr) (iv := iv) true (show i + 2 * n ≤ 40 by omega) (fun q hq => (hX q hq).trans (hA' q hq)) (fun q hq => (hY q hq).trans (hB' q hq)) hp5
        have t0 := x_peopleTold (w := w) (pr := pr) (iv := iv) false (show i + 2 * n ≤ 40 by omega) (fun q hq => (hX q hq).trans (hA' q hq)) (fun q hq => (hY q hq).trans (hB' q hq)) hp5
        obtain ⟨w1, f1, f2, f3⟩ := sp_findSets hc (TwnI.now hci) (tg := ptN pr iv true n) (tn := ptN pr iv false n) (ptN_lt n hp5) (ptN_lt n hp5)
        rw [fsN_congr (fun s => fsT_al (c := c) (pr := pr) (iv := iv) (n := n) (s := s))] at f3
        have hle := fsN_le (t := fun s => alN pr iv (bs (gl c s) (c 4)) n) (2 ^ c 3) 0 (0, 2 ^ c 3 - 1, 2 ^ c 3 - 1)
        have hle2 : (fsN (fun s => alN pr iv (bs (gl c s) (c 4)) n) (2 ^ c 3) 0 (0, 2 ^ c 3 - 1, 2 ^ c 3 - 1)).1 < 2 ^ 31 := by
          have hle : (fsN (fun s => alN pr iv (bs (gl c s) (c 4)) n) (2 ^ c 3) 0 (0, 2 ^ c 3 - 1, 2 ^ c 3 - 1)).1 ≤ 0 + 2 ^ c 3 := hle
          omega
        have hR := FrR.oS f2
        have esg : ∀ s, s ≠ 10 → w1 (sg s) = w (sg s) := fun s hs => f2 _ (fun p => sg_cit) (fun z => hs (by cases z; rfl))
        have e0 : ∀ s, s ≠ 10 → s ≠ 0 → wset w1 (sg 0) 8 (nI 0) (sg s) = w (sg s) := fun s h1 h2 => by rw [wset_ne (fun z => h2 (by cases z; rfl)), esg s h1]
        have hpl1 : MPl (wset w1 (sg 0) 8 (nI 0)) c := hM.pl.fr (by rw [e0 13 (by decide) (by decide)]) (e0 17 (by decide) (by decide))
        have hA1 : ∀ q, q < n → wset w1 (sg 0) 8 (nI 0) (sg 16) (40 * r + (i + 2 * q)) = nI (pr q) := fun q hq => by rw [e0 16 (by decide) (by decide)]; exact hA' q hq
        have hB1 : ∀ q, q < n → wset w1 (sg 0) 8 (nI 0) (sg 16) (40 * r + (i + 2 * q + 1)) = bI (iv q) := fun q hq => by rw [e0 16 (by decide) (by decide)]; exact hB' q hq
        refine ⟨wset w1 (sg 0) 8 (nI 0), wset (wset w1 (sg 0) 8 (nI 0)) (sg 13) 3 (nI 0), saS (fsN (fun s => alN pr iv (bs (gl c s) (c 4)) n) (2 ^ c 3) 0 (0, 2 ^ c 3 - 1, 2 ^ c 3 - 1)) k, gx ?_, gm (by rw [e0 14 (by decide) (by decide)]; exact g3) (by rw [e0 15 (by decide) (by decide)]; exact g5) hpl1 ?_, (hi.seer hR).fin⟩
        · refine Rn.cv 60 rfl rfl rfl rfl rfl ap (by decide) ?_
          refine Rn.if1t 60 rfl rfl (by dsimp only [tm_c2P]; decide) ?_
          refine Rn.cs 60 rfl rfl rfl rfl t1 (by decide) ?_
          refine Rn.cs 60 rfl rfl rfl rfl t0 (by decide) ?_
          refine Rn.cv 60 rfl rfl rfl rfl rfl f1 (by decide) ?_
          refine Rn.cv 60 rfl rfl rfl rfl rfl (x_setsAnswer f3 hle2 (by omega)) (by decide) ?_
          refine Rn.cv 60 rfl rfl rfl rfl rfl x_clean (by decide) ?_
          exact Rn.ir 60 rfl rfl rfl rfl
        · refine m_pairs (X := fun q => w (sg 16) (40 * r + (i + 2 * q))) (Y := fun q => w (sg 16) (40 * r + (i + 2 * q + 1))) hc hpl1 hr (by omega) (fun q hq => by rw [e0 16 (by decide) (by decide)]) (fun q hq => by rw [e0 16 (by decide) (by decide)]) (fun _ => ?_) (fun z => ?_)
          · refine Rn.cv 60 rfl rfl rfl rfl rfl (m_G hpl1) (by decide) ?_
            have st := m_sets (k := k) (A := 2 ^ c 3 - 1) hc hpl1 hr (show i + 2 * n ≤ 40 by omega) hA1 hB1 hp5 (by omega) (r0 := (some (vI (saS (fsN (fun s => alN pr iv (bs (gl c s) (c 4)) n) (2 ^ c 3) 0 (0, 2 ^ c 3 - 1, 2 ^ c 3 - 1)) k)), wset (wset w1 (sg 0) 8 (nI 0)) (sg 13) 3 (nI 0))) (2 ^ c 3) 0 (0, 2 ^ c 3 - 1, 2 ^ c 3 - 1) none none none (by omega) ⟨Nat.and_self _, Nat.and_self _⟩ (fun x11 x12 x13 => ?_)
            · unfold opW at st
              dsimp only at st
              rw [← pk_sub hp1, ← nJ_1shl (show c 3 < 32 by omega)] at st
              exact Rn.at 12 rfl st
            · have fin : ∀ u, u = saS (fsN (fun s => alN pr iv (bs (gl c s) (c 4)) n) (2 ^ c 3) 0 (0, 2 ^ c 3 - 1, 2 ^ c 3 - 1)) k → ∀ lc, Rn none 19 jM_opened (344, lc, [vI u, vR (sg 13)], wset w1 (sg 0) 8 (nI 0)) (some (vI (saS (fsN (fun s => alN pr iv (bs (gl c s) (c 4)) n) (2 ^ c 3) 0 (0, 2 ^ c 3 - 1, 2 ^ c 3 - 1)) k)), wset (wset w1 (sg 0) 8 (nI 0)) (sg 13) 3 (nI 0)) := by
                intro u hu lc
                rw [← hu]
                refine Rn.cv 60 rfl rfl rfl rfl rfl m_well (by decide) ?_
                exact Rn.ir 60 rfl rfl rfl rfl
              generalize fsN (fun s => alN pr iv (bs (gl c s) (c 4)) n) (2 ^ c 3) 0 (0, 2 ^ c 3 - 1, 2 ^ c 3 - 1) = Q at *
              unfold saS at fin ⊢
              by_cases k0 : k = 0
              · rw [if_pos k0] at fin ⊢
                refine Rn.if1f 60 rfl rfl (by dsimp only [tm_c2P]; rw [k0]; decide) ?_
                exact Rn.at 2 rfl (fin _ rfl _)
              · rw [if_neg k0] at fin ⊢
                refine Rn.if1t 60 rfl rfl (nI_ne0 (by omega) (by omega)) ?_
                by_cases q0 : Q.1 = 0
                · rw [if_pos q0] at fin ⊢
                  refine Rn.if1f 60 rfl rfl (by dsimp only [tm_c2P]; rw [q0]; decide) ?_
                  exact Rn.at 2 rfl (fin _ rfl _)
                · rw [if_neg q0] at fin ⊢
                  refine Rn.if1t 60 rfl rfl (nI_ne0 (by omega) hle2) ?_
                  by_cases k1 : k = 1
                  · rw [if_pos k1] at fin ⊢
                    refine Rn.if2f 60 rfl rfl (by dsimp only [tm_c2P]; rw [k1]; exact fun z => z rfl) ?_
                    exact Rn.at 2 rfl (fin _ rfl _)
                  · rw [if_neg k1] at fin ⊢
                    refine Rn.if2t 60 rfl rfl (by dsimp only [tm_c2P]; rw [nI_eq (by omega) (by decide)]; exact k1) ?_
                    exact Rn.at 1 rfl (fin _ rfl _)
          · rw [ha] at z
            cases z
    · refine op_found hi (x := nI 2) (v := -(nI 1000010) - nI 2) (fx (sp_hasNo (by omega) g4 hno) ?_) (fm (by rw [wset_ne (by decide)]; exact g3) (hpl2 _) ?_)
      · refine Rn.if1f 60 rfl rfl (by dsimp only [tm_c2P]; decide) ?_
        refine Rn.cv 60 rfl rfl rfl rfl rfl x_found (by decide) ?_
        exact Rn.ir 60 rfl rfl rfl rfl
      · have fin : Rn none 19 jM_opened (73, [some (vR (sg 13)), some (vI (nI r)), some (vI y), some (vI (nI n)), some (vI (nI k)), none, none, none, none, none, none, none, none, none], [], wset w (sg 0) 8 (nI 2)) (some (vI (-(nI 1000010) - nI 2)), wset (wset w (sg 0) 8 (nI 2)) (sg 13) 3 (nI 2)) := by
          refine Rn.cv 60 rfl rfl rfl rfl rfl m_finds (by decide) ?_
          exact Rn.ir 60 rfl rfl rfl rfl
        refine Rn.if1 60 rfl rfl (fun _ => fin) (fun h2 => ?_)
        obtain ⟨i, hi31, rfl⟩ := nI_of h2
        have hlt := hno i (2 * n) hi31 (by omega) rfl rfl
        refine Rn.al 60 rfl rfl rfl rfl hr ?_
        refine Rn.if2f 60 rfl rfl ?_ fin
        dsimp only [tm_c2P]
        rw [wset_ne (show sg 15 ≠ sg 0 by decide), g5, e2n, Int32.not_le]
        rcases Nat.lt_or_ge L (2 * n) with q | q
        · have : nI L - nI (2 * n) < 0 := pk_sneg (by omega) q
          exact Int32.lt_of_lt_of_le this (nI_pos' hi31)
        · rw [pk_sub q]
          exact nI_lt (by omega) hi31
  · refine op_same hi (v := -(nI 1000002)) ?_ ?_
    · refine Cl.of rfl rfl rfl (lc := [some (vR (sg 0)), some (vI x), some (vI y), some (vI z), some (vI v), none]) rfl ?_
      refine Rn.cv 60 rfl rfl rfl rfl rfl (x_there hc hci) (by decide) ?_
      rw [decide_eq_false h0]
      refine Rn.if1f 60 rfl rfl (by dsimp only [tm_c2P]; decide) ?_
      exact Rn.ir 60 rfl rfl rfl rfl
    · refine Cl.of rfl rfl rfl (lc := [some (vR (sg 13)), some (vI x), some (vI y), some (vI z), some (vI v), none, none, none, none, none, none, none, none, none]) rfl ?_
      refine Rn.cv 60 rfl rfl rfl rfl rfl (m_hasCity hc hM.pl) (by decide) ?_
      rw [decide_eq_false h0]
      refine Rn.if1f 60 rfl rfl (by dsimp only [tm_c2P]; decide) ?_
      exact Rn.ir 60 rfl rfl rfl rfl
end
section
/-! acts kept: the ring of the class, the row of the reference -/
def kpM (m : Nat) : Nat := if m < 24 then m else 23
def kpT (m : Nat) (S : Nat → Sn) : Nat → Sn := fun i => S (if m < 24 then i else i + 1)
def kpS (m : Nat) (S : Nat → Sn) (s : Sn) : Nat → Sn := fun i => if i = kpM m then s else kpT m S i
theorem kp_min {m : Nat} (h : m ≤ 24) : min (m + 1) 24 = kpM m + 1 := by
  unfold kpM
  split <;> omega
theorem kpM_le {m : Nat} : kpM m ≤ 23 := by
  unfold kpM
  split <;> omega
def kpW (w : Wd) (m x : Nat) (o sp dy : Nat) : Wd := wset (wset (cpW (wset (wset (wset w (sg 6) x (nI o)) (sg 7) x (nI sp)) (sg 8) x (nI dy)) (cit 0 7) (sg 9) 0 (x * 5) 5) (sg 5) 1 (nI ((x + 1) % 24))) (sg 5) 0 (nI (kpM m + 1))
theorem sg_ne {a b : Nat} (h : a ≠ b) : sg a ≠ sg b := fun z => h (by cases z; rfl)
theorem sp_keep {w : Wd} {c : Nat → Nat} {nr ti o sp dy m x : Nat} {wf : Nat → Nat} {S : Nat → Sn} (hc : PlOk c) (hd : DyIs w 0 c nr ti o sp dy wf) (hm : m ≤ 24) (hx : x < 24) (h : AcC w (c 4) m x S) : Cl 2 jA_keep [vR (sg 5), vR (cit 0 0)] w (none, kpW w m x o sp dy) ∧ AcC (kpW w m x o sp dy) (c 4) (kpM m + 1) ((x + 1) % 24) (kpS m S (o, sp, dy, wf)) := by
  have hc4 := hc.2.2.1
  obtain ⟨h0, h1, h2⟩ := h
  obtain ⟨d1, d2, d3, d4, d5, d6⟩ := hd
  constructor
  · refine Cl.of rfl rfl rfl (lc := [some (vR (sg 5)), some (vR (cit 0 0))]) rfl ?_
    refine Rn.as 60 rfl rfl rfl h1 hx ?_
    rw [d3]
    refine Rn.as 60 rfl rfl rfl (by rw [wset_ne (sg_ne (by decide))]; exact h1) hx ?_
    rw [wset_ne cit_sg, d4]
    refine Rn.as 60 rfl rfl rfl (by rw [wset_ne (sg_ne (by decide)), wset_ne (sg_ne (by decide))]; exact h1) hx ?_
    rw [wset_ne cit_sg, wset_ne cit_sg, d5]
    have e1 : ∀ t, wset (wset (wset w (sg 6) x (nI o)) (sg 7) x (nI sp)) (sg 8) x (nI dy) (sg 5) t = w (sg 5) t := fun t => by rw [wset_ne (sg_ne (by decide)), wset_ne (sg_ne (by decide)), wset_ne (sg_ne (by decide))]
    have cp := cl_copy (w := wset (wset (wset w (sg 6) x (nI o)) (sg 7) x (nI sp)) (sg 8) x (nI dy)) (s := cit 0 7) (d := sg 9) (a := 0) (b := x * 5) (n := 5) (n0 := 5) (n1 := 120) rfl rfl (by omega) (by omega)
    rw [← pk_mul, ← h1, ← e1 1] at cp
    refine Rn.cs 60 rfl rfl rfl rfl cp (by decide) ?_
    have e2 : cpW (wset (wset (wset w (sg 6) x (nI o)) (sg 7) x (nI sp)) (sg 8) x (nI dy)) (cit 0 7) (sg 9) 0 (x * 5) 5 (sg 5) 1 = nI x := by rw [cpW_ne (sg_ne (by decide)), e1, h1]
    have e3 : cpW (wset (wset (wset w (sg 6) x (nI o)) (sg 7) x (nI sp)) (sg 8) x (nI dy)) (cit 0 7) (sg 9) 0 (x * 5) 5 (sg 5) 0 = nI m := by rw [cpW_ne (sg_ne (by decide)), e1, h0]
    refine Rn.cs 60 rfl rfl rfl rfl (Cl.jdk rfl rfl) (by decide) ?_
    refine Rn.vr 60 rfl rfl rfl ?_
    unfold kpW
    dsimp only
    have e4 : ∀ z, z = nI (m + 1) → (if nI 24 < z then nI 24 else z) = nI (kpM m + 1) := by
      intro z hz
      subst hz
      rw [nJ_min (by omega) (by decide), kp_min hm]
    rw [wset_k (show (0 : Nat) ≠ 1 by decide), e2, e3, nI_add x 1, pk_rem (by omega) (by decide) (by decide), e4 _ (nI_add m 1)]
  · have sl : ∀ i, i < kpM m + 1 → ∃ j, j = ((x + 1) % 24 + 24 - (kpM m + 1) + i) % 24 ∧ ((i = kpM m ∧ j = x) ∨ (i ≠ kpM m ∧ j ≠ x ∧ (if m < 24 then i else i + 1) < m ∧ j = (x + 24 - m + (if m < 24 then i else i + 1)) % 24)) := by
      intro i hi
      refine ⟨_, rfl, ?_⟩
      unfold kpM at *
      by_cases e : m < 24
      · rw [if_pos e] at *
        rw [if_pos e]
        by_cases ei : i = m
        · exact Or.inl ⟨ei, by omega⟩
        · exact Or.inr ⟨ei, by omega, by omega, by omega⟩
      · rw [if_neg e] at *
        rw [if_neg e]
        by_cases ei : i = 23
        · exact Or.inl ⟨ei, by omega⟩
        · exact Or.inr ⟨ei, by omega, by omega, by omega⟩
    refine ⟨?_, ?_, fun i hi => ?_⟩
    · unfold kpW
      rw [wset_s]
    · unfold kpW
      rw [wset_k (by decide), wset_s]
    · obtain ⟨j, e1, e2⟩ := sl i hi
      rw [← e1]
      have k6 : kpW w m x o sp dy (sg 6) j = if j = x then nI o else w (sg 6) j := by
        unfold kpW
        rw [wset_ne (sg_ne (by decide)), wset_ne (sg_ne (by decide)), cpW_ne (sg_ne (by decide)), wset_ne (sg_ne (by decide)), wset_ne (sg_ne (by decide))]
        by_cases e : j = x
        · subst e
          rw [wset_s, if_pos rfl]
        · rw [wset_k e, if_neg e]
      have k7 : kpW w m x o sp dy (sg 7) j = if j = x then nI sp else w (sg 7) j := by
        unfold kpW
        rw [wset_ne (sg_ne (by decide)), wset_ne (sg_ne (by decide)), cpW_ne (sg_ne (by decide)), wset_ne (sg_ne (by decide))]
        by_cases e : j = x
        · subst e
          rw [wset_s, if_pos rfl]
        · rw [wset_k e, wset_ne (sg_ne (by decide)), if_neg e]
      have k8 : kpW w m x o sp dy (sg 8) j = if j = x then nI dy else w (sg 8) j := by
        unfold kpW
        rw [wset_ne (sg_ne (by decide)), wset_ne (sg_ne (by decide)), cpW_ne (sg_ne (by decide))]
        by_cases e : j = x
        · subst e
          rw [wset_s, if_pos rfl]
        · rw [wset_k e, wset_ne (sg_ne (by decide)), wset_ne (sg_ne (by decide)), if_neg e]
      have k9 : ∀ p, p < 5 → kpW w m x o sp dy (sg 9) (5 * j + p) = if j = x then w (cit 0 7) p else w (sg 9) (5 * j + p) := by
        intro p hp
        unfold kpW
        rw [wset_ne (sg_ne (by decide)), wset_ne (sg_ne (by decide))]
        unfold cpW va_cpy
        rw [if_pos rfl]
        by_cases e : j = x
        · subst e
          rw [if_pos (by omega), if_pos rfl, wset_ne cit_sg, wset_ne cit_sg, wset_ne cit_sg]
          congr 1
          omega
        · rw [if_neg (by omega), if_neg e, wset_ne (sg_ne (by decide)), wset_ne (sg_ne (by decide)), wset_ne (sg_ne (by decide))]
      rw [k6, k7, k8]
      rcases e2 with ⟨f1, f2⟩ | ⟨f1, f2, f3, f4⟩
      · unfold kpS
        rw [if_pos f1, if_pos f2, if_pos f2, if_pos f2]
        refine ⟨rfl, rfl, rfl, fun p hp => ?_⟩
        rw [k9 p (by omega), if_pos f2]
        exact d6 p hp
      · unfold kpS kpT
        rw [if_neg f1, if_neg f2, if_neg f2, if_neg f2]
        obtain ⟨g1, g2, g3, g4⟩ := h2 _ f3
        rw [← f4] at g1 g2 g3 g4
        refine ⟨g1, g2, g3, fun p hp => ?_⟩
        rw [k9 p (by omega), if_neg f2]
        exact g4 p hp
/-- the reference's row of acts, moved down by one act, k places of it -/
def shW (w : Wd) (n : Nat) : Wd := fun t k => if t = sg 19 ∧ k < n then w (sg 19) (5 + k) else w t k
theorem shW_ne {w : Wd} {n : Nat} {t : TA} (h : t ≠ sg 19) : shW w n t = w t := funext (fun k => if_neg (fun z => h z.1))
theorem shW_s {w : Wd} {n : Nat} : wset (shW w n) (sg 19) n (w (sg 19) (5 + n)) = shW w (n + 1) := by
  funext t k
  unfold wset shW
  by_cases h : t = sg 19
  · subst h
    rw [if_pos rfl]
    by_cases e : k = n
    · subst e
      rw [if_pos rfl, if_pos ⟨rfl, by omega⟩]
    · rw [if_neg e]
      by_cases e2 : k < n
      · rw [if_pos ⟨rfl, e2⟩, if_pos ⟨rfl, by omega⟩]
      · rw [if_neg (fun z => e2 z.2), if_neg (fun z => by omega)]
  · rw [if_neg h, if_neg (fun z => h z.1), if_neg (fun z => h z.1)]
theorem shW_0 {w : Wd} : shW w 0 = w := by
  funext t k
  exact if_neg (fun z => by omega)
/-- how a call of the reference names who acts -/
def knY (P : Nat) (wf : Nat → Nat) (y : Int32) (wf' : Nat → Nat) : Prop := (y = -(nI 1000000) ∧ ∀ p, p < P → wf p = wf' p) ∨ ∃ q, q < P ∧ y = nI q ∧ ∀ p, p < P → wf p = upW wf' q (wf q) p
def AFr (w w' : Wd) : Prop := (∀ t, t ≠ sg 13 → t ≠ sg 19 → w' t = w t) ∧ ∀ j, j ≠ 8 → w' (sg 13) j = w (sg 13) j
theorem m_know {w : Wd} {c : Nat → Nat} {nr ti o sp dy m : Nat} {wf : Nat → Nat} {S : Nat → Sn} {y : Int32} (hc : PlOk c) (hM : Mt w c nr ti o sp dy wf) (hm : m ≤ 24) (h : AcM w (c 4) m S wf) (hy : y = -(nI 1000000) ∨ ∃ q, q < c 4 ∧ y = nI q) : ∃ w', Cl 3 jM_know [vR (sg 13), vI y] w (none, w') ∧ AFr w w' ∧ ∀ wf', knY (c 4) wf y wf' → AcM w' (c 4) (kpM m + 1) (kpS m S (o, sp, dy, wf)) wf' := by
  have hc4 := hc.2.2.1
  -- room for one more
  have first : ∃ w1 x2, AFr w w1 ∧ AcM w1 (c 4) (kpM m) (kpT m S) wf ∧ ∀ r, Rn none 2 jM_know (47, [some (vR (sg 13)), some (vI y), x2], [], w1) r → Rn none 2 jM_know (0, [some (vR (sg 13)), some (vI y), none], [], w) r := by
    by_cases e : m < 24
    · refine ⟨w, none, ⟨fun _ _ _ => rfl, fun _ _ => rfl⟩, ?_, fun r k => ?_⟩
      · have e1 : kpM m = m := if_pos e
        have e2 : kpT m S = S := by funext i; unfold kpT; rw [if_pos e]
        rw [e1, e2]
        exact h
      · exact Rn.if2t 60 rfl rfl (by dsimp only [tm_c2P]; rw [h.1, nI_eq (by omega) (by decide)]; omega) k
    · obtain rfl : m = 24 := by omega
      refine ⟨wset (shW w 115) (sg 13) 8 (nI 23), some (vI (nI 115)), ⟨fun t h1 h2 => by rw [wset_ne h1, shW_ne h2], fun j hj => by rw [wset_k hj, shW_ne (sg_ne (by decide))]⟩, ⟨wset_s, fun i hi => ?_⟩, fun r k => ?_⟩
      · have hi : i < 23 := hi
        have h1 := h.2 (i + 1) (by omega)
        have e3 : (if i + 1 + 1 = 24 then wf else (S (i + 1 + 1)).2.2.2) = (if i + 1 = kpM 24 then wf else (kpT 24 S (i + 1)).2.2.2) := by
          have ek : kpM 24 = 23 := by decide
          have et : kpT 24 S (i + 1) = S (i + 1 + 1) := by unfold kpT; rw [if_neg (by decide)]
          rw [ek, et]
          by_cases e : i + 1 = 23
          · rw [if_pos e, if_pos (by omega)]
          · rw [if_neg e, if_neg (by omega)]
        rw [e3] at h1
        have e4 : kpT 24 S i = S (i + 1) := by unfold kpT; rw [if_neg (by decide)]
        rw [e4]
        refine h1.of (fun j hj => ?_)
        rw [wset_ne (sg_ne (by decide))]
        unfold shW
        rw [if_pos ⟨rfl, by omega⟩]
        congr 1
        omega
      · have key : ∀ n q, q + n = 115 → Rn none 2 jM_know (11, [some (vR (sg 13)), some (vI y), some (vI (nI q))], [], shW w q) r := by
          intro n
          induction n with
          | zero =>
            intro q hq
            obtain rfl : q = 115 := by omega
            refine Rn.if2t 60 rfl rfl (by dsimp only [tm_c2P]; decide) ?_
            have e8 : shW w 115 (sg 13) 8 = nI 24 := by rw [shW_ne (sg_ne (by decide))]; exact h.1
            rw [show nI 23 = nI 24 - nI 1 from (pk_sub (show 1 ≤ 24 by decide)).symm, ← e8] at k
            exact Rn.at 6 rfl k
          | succ n ih =>
            intro q hq
            have k1 := ih (q + 1) (by omega)
            refine Rn.if2f 60 rfl rfl (nI_ge (by omega) (by omega)) ?_
            refine Rn.al 60 (j := 5 + q) rfl rfl rfl (by dsimp only; rw [nI_add]) (by omega) ?_
            refine Rn.as 60 rfl rfl rfl rfl (by omega) ?_
            have e5 : shW w q (sg 19) (5 + q) = w (sg 19) (5 + q) := if_neg (fun z => by omega)
            rw [e5, shW_s]
            rw [nI_succ q] at k1
            exact Rn.at 2 rfl k1
        have k0 := key 115 0 (by omega)
        rw [shW_0] at k0
        refine Rn.if2f 60 rfl rfl (by dsimp only [tm_c2P]; rw [h.1]; exact fun z => z rfl) ?_
        exact Rn.at 2 rfl k0
  obtain ⟨w1, x2, a1, a2, a3⟩ := first
  have hk := kpM_le (m := m)
  generalize hk1 : kpM m = m1 at *
  have hM1 : Mt w1 c nr ti o sp dy wf := ⟨by rw [a1.2 5 (by decide)]; exact hM.1, hM.2.fr (a1.1 _ (sg_ne (by decide)) (sg_ne (by decide)))⟩
  have up : ∀ {W : Wd} {j : Nat} {z : Int32}, Mt W c nr ti o sp dy wf → Mt (wset W (sg 19) j z) c nr ti o sp dy wf := fun hW => ⟨by rw [wset_ne (sg_ne (by decide))]; exact hW.1, hW.2.fr (wset_ne (sg_ne (by decide)))⟩
  have um : ∀ {W : Wd} {j : Nat} {z : Int32}, W (sg 13) 8 = nI m1 → wset W (sg 19) j z (sg 13) 8 = nI m1 := fun hW => by rw [wset_ne (sg_ne (by decide))]; exact hW
  have go : ∀ {W : Wd}, Mt W c nr ti o sp dy wf → W (sg 17) 6 = nI o ∧ W (sg 17) 7 = nI sp ∧ W (sg 17) 5 = nI dy ∧ ∀ p, p < c 4 → W (sg 17) (27 + 5 * p) = nI (wf p) := by
    intro W hW
    obtain ⟨_, _, _, _, _, _, q6, q7, q8, _, q10⟩ := hW
    simp only [Nat.zero_add] at q6 q7 q8 q10
    exact ⟨q7, q8, q6, fun p hp => (q10 p hp).2.2.2.1⟩
  generalize hw4 : wset (wset (wset (wset w1 (sg 19) (5 * m1) (nI o)) (sg 19) (5 * m1 + 1) (nI sp)) (sg 19) (5 * m1 + 2) (nI dy)) (sg 19) (5 * m1 + 3) y = w4
  have hM2 := up (j := 5 * m1) (z := nI o) hM1
  have hM3 := up (j := 5 * m1 + 1) (z := nI sp) hM2
  have hM4 := up (j := 5 * m1 + 2) (z := nI dy) hM3
  have hM5 := up (j := 5 * m1 + 3) (z := y) hM4
  have hm5 := um (j := 5 * m1 + 3) (z := y) (um (j := 5 * m1 + 2) (z := nI dy) (um (j := 5 * m1 + 1) (z := nI sp) (um (j := 5 * m1) (z := nI o) a2.1)))
  have body : ∀ r, Rn none 2 jM_know (127, [some (vR (sg 13)), some (vI y), x2], [vI (nI 5 * nI m1 + nI 4), vR (sg 19)], w4) r → Rn none 2 jM_know (0, [some (vR (sg 13)), some (vI y), none], [], w) r := by
    intro r k
    rw [← hw4] at k
    refine a3 r ?_
    refine Rn.cv 60 rfl rfl rfl rfl rfl (m_get (k := 6) (v := nI o) hM1.1 rfl (by decide) (go hM1).1) (by decide) ?_
    refine Rn.as 60 (j := 5 * m1) rfl rfl rfl (by dsimp only; rw [a2.1, pk_mul]) (by omega) ?_
    refine Rn.cv 60 rfl rfl rfl rfl rfl (m_get (k := 7) (v := nI sp) hM2.1 rfl (by decide) (go hM2).2.1) (by decide) ?_
    refine Rn.as 60 (j := 5 * m1 + 1) rfl rfl rfl (by dsimp only; rw [um a2.1, pk_mul, nI_add]) (by omega) ?_
    refine Rn.cv 60 rfl rfl rfl rfl rfl (m_get (k := 5) (v := nI dy) hM3.1 rfl (by decide) (go hM3).2.2.1) (by decide) ?_
    refine Rn.as 60 (j := 5 * m1 + 2) rfl rfl rfl (by dsimp only; rw [um (um a2.1), pk_mul, nI_add]) (by omega) ?_
    refine Rn.as 60 (j := 5 * m1 + 3) rfl rfl rfl (by dsimp only; rw [um (um (um a2.1)), pk_mul, nI_add]) (by omega) ?_
    rw [← hm5] at k
    exact Rn.at 8 rfl k
  rw [hw4] at hM5 hm5
  have fin : ∀ v, ∃ w', (∀ r, Rn none 2 jM_know (154, [some (vR (sg 13)), some (vI y), x2], [], w') r → Rn none 2 jM_know (143, [some (vR (sg 13)), some (vI y), x2], [vI v, vI (nI 5 * nI m1 + nI 4), vR (sg 19)], w4) r) ∧ w' = wset (wset w4 (sg 19) (5 * m1 + 4) v) (sg 13) 8 (nI (m1 + 1)) := by
    intro v
    refine ⟨_, fun r k => ?_, rfl⟩
    refine Rn.as 60 (j := 5 * m1 + 4) rfl rfl rfl (by rw [pk_mul, nI_add]) (by omega) ?_
    rw [← nI_add m1 1, ← um (j := 5 * m1 + 4) (z := v) hm5] at k
    exact Rn.at 6 rfl k
  have res : ∀ v, (y ≠ -(nI 1000000) → ∀ q, q < c 4 → y = nI q → v = nI (wf q)) → AFr w (wset (wset w4 (sg 19) (5 * m1 + 4) v) (sg 13) 8 (nI (m1 + 1))) ∧ ∀ wf', knY (c 4) wf y wf' → AcM (wset (wset w4 (sg 19) (5 * m1 + 4) v) (sg 13) 8 (nI (m1 + 1))) (c 4) (m1 + 1) (kpS m S (o, sp, dy, wf)) wf' := by
    intro v hv
    subst hw4
    refine ⟨⟨fun t h1 h2 => by rw [wset_ne h1, wset_ne h2, wset_ne h2, wset_ne h2, wset_ne h2, wset_ne h2]; exact a1.1 t h1 h2, fun j hj => by rw [wset_k hj, wset_ne (sg_ne (by decide)), wset_ne (sg_ne (by decide)), wset_ne (sg_ne (by decide)), wset_ne (sg_ne (by decide)), wset_ne (sg_ne (by decide))]; exact a1.2 j hj⟩, fun wf' hk' => ⟨wset_s, fun i hi => ?_⟩⟩
    by_cases ei : i = m1
    · subst ei
      have e1 : kpS m S (o, sp, dy, wf) i = (o, sp, dy, wf) := by unfold kpS; rw [if_pos hk1.symm]
      rw [e1, if_pos rfl]
      refine ⟨?_, ?_, ?_, ?_⟩
      · rw [wset_ne (sg_ne (by decide)), wset_k (by omega), wset_k (by omega), wset_k (by omega), wset_k (by omega), wset_s]
      · rw [wset_ne (sg_ne (by decide)), wset_k (by omega), wset_k (by omega), wset_k (by omega), wset_s]
      · rw [wset_ne (sg_ne (by decide)), wset_k (by omega), wset_k (by omega), wset_s]
      · rw [wset_ne (sg_ne (by decide)), wset_k (by omega), wset_s, wset_s]
        rcases hk' with ⟨y1, y2⟩ | ⟨q, y1, y2, y3⟩
        · exact Or.inl ⟨y1, y2⟩
        · refine Or.inr ⟨q, wf q, y1, y2, ?_, y3⟩
          refine hv ?_ q y1 y2
          rw [y2]
          intro z
          have z2 := congrArg Int32.toInt z
          rw [nI_toInt (by omega)] at z2
          have e : (-(nI 1000000)).toInt = -1000000 := by decide
          omega
    · have e1 : kpS m S (o, sp, dy, wf) i = kpT m S i := by unfold kpS; rw [if_neg (by omega)]
      have h1 := a2.2 i (by omega)
      have e3 : (if i + 1 = m1 then wf else (kpT m S (i + 1)).2.2.2) = (if i + 1 = m1 + 1 then wf' else (kpS m S (o, sp, dy, wf) (i + 1)).2.2.2) := by
        rw [if_neg (show ¬ i + 1 = m1 + 1 by omega)]
        unfold kpS
        by_cases e : i + 1 = m1
        · rw [if_pos e, if_pos (by omega)]
        · rw [if_neg e, if_neg (by omega)]
      rw [e1, ← e3]
      refine h1.of (fun j hj => ?_)
      rw [wset_ne (sg_ne (by decide)), wset_k (by omega), wset_k (by omega), wset_k (by omega), wset_k (by omega), wset_k (by omega)]
  rcases hy with hy | ⟨q, hq, hy⟩
  · obtain ⟨w', f1, f2⟩ := fin (nI 0)
    obtain ⟨r1, r2⟩ := res (nI 0) (fun z => absurd hy z)
    rw [← f2] at r1 r2
    refine ⟨w', ?_, r1, r2⟩
    refine Cl.of rfl rfl rfl (lc := [some (vR (sg 13)), some (vI y), none]) rfl (body _ ?_)
    refine Rn.if2f 60 rfl rfl (fun z => z hy) ?_
    refine Rn.at 2 rfl (f1 _ ?_)
    exact Rn.vr 60 rfl rfl rfl rfl
  · obtain ⟨w', f1, f2⟩ := fin (nI (wf q))
    obtain ⟨r1, r2⟩ := res (nI (wf q)) (fun _ q' h1 h2 => by
      rw [hy, nI_eq (by omega) (by omega)] at h2
      rw [h2])
    rw [← f2] at r1 r2
    refine ⟨w', ?_, r1, r2⟩
    refine Cl.of rfl rfl rfl (lc := [some (vR (sg 13)), some (vI y), none]) rfl (body _ ?_)
    subst hy
    refine Rn.if2t 60 rfl rfl ?_ ?_
    · dsimp only [tm_c2P]
      intro z
      have z2 := congrArg Int32.toInt z
      rw [nI_toInt (by omega)] at z2
      have e : (-(nI 1000000)).toInt = -1000000 := by decide
      omega
    refine Rn.cv 60 rfl rfl rfl rfl rfl (m_pers (p := q) (k := 3) (v := nI (wf q)) hM5.1 (by omega) (by rw [show 24 + 5 * q + 3 = 27 + 5 * q by omega]; exact (go hM5).2.2.2 q hq)) (by decide) ?_
    refine f1 _ ?_
    exact Rn.vr 60 rfl rfl rfl rfl
end
section
/-! turn, wish -/
theorem CiIs.opn {w : Wd} {k : Fin 6} {c : Nat → Nat} {nr ti o o' sp dy : Nat} {wf : Nat → Nat} (h : CiIs w k c nr ti o sp dy wf) : CiIs (wset w (cit k 0) 12 (nI o')) k c nr ti o' sp dy wf := by
  obtain ⟨h1, ⟨d1, d2, d3, d4, d5, d6⟩, h3⟩ := h
  refine ⟨h1.of (wset_k (by decide)) (wset_k (by decide)) (wset_k (by decide)) (fun p _ _ => wset_ne (cit_p (by omega))), ⟨by rw [wset_k (by decide)]; exact d1, by rw [wset_k (by decide)]; exact d2, wset_s, by rw [wset_k (by decide)]; exact d4, by rw [wset_k (by decide)]; exact d5, fun p hp => by rw [wset_ne (cit_p (by decide))]; exact d6 p hp⟩, ?_⟩
  rcases h3 with z | ⟨mo, z1, z2, z3⟩
  · exact Or.inl (by rw [wset_k (by decide)]; exact z)
  · exact Or.inr ⟨mo, z1, by rw [wset_k (by decide)]; exact z2, z3.of (wset_ne (cit_p (by decide)))⟩
theorem CiIs.wish {w : Wd} {k : Fin 6} {c : Nat → Nat} {nr ti o sp dy p v : Nat} {wf : Nat → Nat} (h : CiIs w k c nr ti o sp dy wf) : CiIs (wset w (cit k 7) p (nI v)) k c nr ti o sp dy (upW wf p v) := by
  obtain ⟨h1, ⟨d1, d2, d3, d4, d5, d6⟩, h3⟩ := h
  refine ⟨h1.of (by rw [wset_ne (cit_p (by decide))]) (by rw [wset_ne (cit_p (by decide))]) (by rw [wset_ne (cit_p (by decide))]) (fun p _ _ => wset_ne (cit_p (by omega))), ⟨by rw [wset_ne (cit_p (by decide))]; exact d1, by rw [wset_ne (cit_p (by decide))]; exact d2, by rw [wset_ne (cit_p (by decide))]; exact d3, by rw [wset_ne (cit_p (by decide))]; exact d4, by rw [wset_ne (cit_p (by decide))]; exact d5, fun q hq => ?_⟩, ?_⟩
  · unfold upW
    by_cases e : q = p
    · subst e
      rw [wset_s, if_pos rfl]
    · rw [wset_k e, if_neg e]
      exact d6 q hq
  · rcases h3 with z | ⟨mo, z1, z2, z3⟩
    · exact Or.inl (by rw [wset_ne (cit_p (by decide))]; exact z)
    · exact Or.inr ⟨mo, z1, by rw [wset_ne (cit_p (by decide))]; exact z2, z3.of (wset_ne (cit_p (by decide)))⟩
theorem m_put {w : Wd} {x v : Int32} {k : Nat} (hb : w (sg 13) 5 = nI 0) (hx : x = nI k) (hk : k < 196) : Cl 1 jM_put [vR (sg 13), vI x, vI v] w (none, wset w (sg 17) k v) := by
  subst hx
  refine Cl.of rfl rfl rfl (lc := [some (vR (sg 13)), some (vI (nI k)), some (vI v)]) rfl ?_
  refine Rn.as 60 (j := k) rfl rfl rfl (by dsimp only; rw [hb, nI_add, Nat.zero_add]) hk ?_
  exact Rn.vr 60 rfl rfl rfl rfl
theorem Mt.opn {w : Wd} {c : Nat → Nat} {nr ti o o' sp dy : Nat} {wf : Nat → Nat} (h : Mt w c nr ti o sp dy wf) : Mt (wset w (sg 17) 6 (nI o')) c nr ti o' sp dy wf := by
  obtain ⟨h0, h1, h2, h3, h4, h5, h6, h7, h8, h9, h10⟩ := h
  simp only [Nat.zero_add] at h2 h3 h4 h5 h6 h7 h8 h9 h10
  refine ⟨by rw [wset_ne (sg_ne (by decide))]; exact h0, ?_⟩
  unfold MaIs
  simp only [Nat.zero_add]
  refine ⟨by rw [wset_k (by decide)]; exact h1, by rw [wset_k (by decide)]; exact h2, by rw [wset_k (by decide)]; exact h3, by rw [wset_k (by decide)]; exact h4, by rw [wset_k (by decide)]; exact h5, by rw [wset_k (by decide)]; exact h6, wset_s, by rw [wset_k (by decide)]; exact h8, fun g hg => ?_, fun p hp => ?_⟩
  · rw [wset_k (by omega), wset_k (by omega)]
    exact h9 g hg
  · rw [wset_k (by omega), wset_k (by omega), wset_k (by omega), wset_k (by omega), wset_k (by omega)]
    exact h10 p hp
theorem Mt.spent {w : Wd} {c : Nat → Nat} {nr ti o sp' sp dy : Nat} {wf : Nat → Nat} (h : Mt w c nr ti o sp dy wf) : Mt (wset w (sg 17) 7 (nI sp')) c nr ti o sp' dy wf := by
  obtain ⟨h0, h1, h2, h3, h4, h5, h6, h7, h8, h9, h10⟩ := h
  simp only [Nat.zero_add] at h2 h3 h4 h5 h6 h7 h8 h9 h10
  refine ⟨by rw [wset_ne (sg_ne (by decide))]; exact h0, ?_⟩
  unfold MaIs
  simp only [Nat.zero_add]
  refine ⟨by rw [wset_k (by decide)]; exact h1, by rw [wset_k (by decide)]; exact h2, by rw [wset_k (by decide)]; exact h3, by rw [wset_k (by decide)]; exact h4, by rw [wset_k (by decide)]; exact h5, by rw [wset_k (by decide)]; exact h6, by rw [wset_k (by decide)]; exact h7, wset_s, fun g hg => ?_, fun p hp => ?_⟩
  · rw [wset_k (by omega), wset_k (by omega)]
    exact h9 g hg
  · rw [wset_k (by omega), wset_k (by omega), wset_k (by omega), wset_k (by omega), wset_k (by omega)]
    exact h10 p hp
theorem Mt.day {w : Wd} {c : Nat → Nat} {nr ti o sp dy' dy : Nat} {wf : Nat → Nat} (h : Mt w c nr ti o sp dy wf) : Mt (wset w (sg 17) 5 (nI dy')) c nr ti o sp dy' wf := by
  obtain ⟨h0, h1, h2, h3, h4, h5, h6, h7, h8, h9, h10⟩ := h
  simp only [Nat.zero_add] at h2 h3 h4 h5 h6 h7 h8 h9 h10
  refine ⟨by rw [wset_ne (sg_ne (by decide))]; exact h0, ?_⟩
  unfold MaIs
  simp only [Nat.zero_add]
  refine ⟨by rw [wset_k (by decide)]; exact h1, by rw [wset_k (by decide)]; exact h2, by rw [wset_k (by decide)]; exact h3, by rw [wset_k (by decide)]; exact h4, by rw [wset_k (by decide)]; exact h5, wset_s, by rw [wset_k (by decide)]; exact h7, by rw [wset_k (by decide)]; exact h8, fun g hg => ?_, fun p hp => ?_⟩
  · rw [wset_k (by omega), wset_k (by omega)]
    exact h9 g hg
  · rw [wset_k (by omega), wset_k (by omega), wset_k (by omega), wset_k (by omega), wset_k (by omega)]
    exact h10 p hp
theorem Mt.wish {w : Wd} {c : Nat → Nat} {nr ti o sp dy p v : Nat} {wf : Nat → Nat} (hc : PlOk c) (h : Mt w c nr ti o sp dy wf) : Mt (wset w (sg 17) (27 + 5 * p) (nI v)) c nr ti o sp dy (upW wf p v) := by
  obtain ⟨h0, h1, h2, h3, h4, h5, h6, h7, h8, h9, h10⟩ := h
  have hc3 := hc.2.1
  simp only [Nat.zero_add] at h2 h3 h4 h5 h6 h7 h8 h9 h10
  refine ⟨by rw [wset_ne (sg_ne (by decide))]; exact h0, ?_⟩
  unfold MaIs
  simp only [Nat.zero_add]
  refine ⟨by rw [wset_k (by omega)]; exact h1, by rw [wset_k (by omega)]; exact h2, by rw [wset_k (by omega)]; exact h3, by rw [wset_k (by omega)]; exact h4, by rw [wset_k (by omega)]; exact h5, by rw [wset_k (by omega)]; exact h6, by rw [wset_k (by omega)]; exact h7, by rw [wset_k (by omega)]; exact h8, fun g hg => ?_, fun q hq => ?_⟩
  · rw [wset_k (by omega), wset_k (by omega)]
    exact h9 g hg
  · obtain ⟨q1, q2, q3, q4, q5⟩ := h10 q hq
    refine ⟨by rw [wset_k (by omega)]; exact q1, by rw [wset_k (by omega)]; exact q2, by rw [wset_k (by omega)]; exact q3, ?_, by rw [wset_k (by omega)]; exact q5⟩
    unfold upW
    by_cases e : q = p
    · subst e
      rw [wset_s, if_pos rfl]
    · rw [wset_k (by omega), if_neg e]
      exact q4
theorem AcM.of {w w' : Wd} {P m : Nat} {S : Nat → Sn} {wf : Nat → Nat} (h : AcM w P m S wf) (e13 : w' (sg 13) 8 = w (sg 13) 8) (e19 : w' (sg 19) = w (sg 19)) : AcM w' P m S wf := ⟨e13.trans h.1, fun i hi => (h.2 i hi).of (fun j _ => by rw [e19])⟩
theorem kpS_ok {c : Nat → Nat} {nr ti o sp dy m : Nat} {wf : Nat → Nat} {S : Nat → Sn} (hm : m ≤ 24) (hok : CtOk c nr ti o sp dy wf) (h : ∀ i, i < m → CtOk c nr ti (S i).1 (S i).2.1 (S i).2.2.1 (S i).2.2.2) : ∀ i, i < kpM m + 1 → CtOk c nr ti (kpS m S (o, sp, dy, wf) i).1 (kpS m S (o, sp, dy, wf) i).2.1 (kpS m S (o, sp, dy, wf) i).2.2.1 (kpS m S (o, sp, dy, wf) i).2.2.2 := by
  intro i hi
  unfold kpS
  by_cases e : i = kpM m
  · rw [if_pos e]
    exact hok
  · rw [if_neg e]
    unfold kpT
    refine h _ ?_
    unfold kpM at hi e
    split <;> split at hi <;> split at e <;> omega
theorem kpW_fr {w : Wd} {m x o sp dy : Nat} {t : TA} (h : ∀ s, 5 ≤ s → s ≤ 9 → t ≠ sg s) : kpW w m x o sp dy t = w t := by
  unfold kpW
  rw [wset_ne (h 5 (by decide) (by decide)), wset_ne (h 5 (by decide) (by decide)), cpW_ne (h 9 (by decide) (by decide)), wset_ne (h 8 (by decide) (by decide)), wset_ne (h 7 (by decide) (by decide)), wset_ne (h 6 (by decide) (by decide))]
theorem kpW_cit {w : Wd} {m x o sp dy : Nat} {k : Fin 6} {p : Nat} : kpW w m x o sp dy (cit k p) = w (cit k p) := kpW_fr (fun s _ _ => cit_sg)
theorem kpW_sg {w : Wd} {m x o sp dy s : Nat} (h : s < 5 ∨ 9 < s) : kpW w m x o sp dy (sg s) = w (sg s) := kpW_fr (fun s' h1 h2 => sg_ne (by omega))
theorem kpW_same {w : Wd} {m x o sp dy n : Nat} (h : n ≠ 5) : Same n w (kpW w m x o sp dy) := fun t j e => by
  rw [kpW_fr (fun s h1 h2 z => by subst z; exact h ((own_acts s h1 h2 j).symm.trans e).symm)]
theorem AFr.same {w w' : Wd} (f : AFr w w') {n : Nat} (h5 : n ≠ 5) : Same n w w' := fun t j e => by
  by_cases h1 : t = sg 13
  · subst h1
    exact f.2 j (fun z => by subst z; exact h5 e.symm)
  · by_cases h2 : t = sg 19
    · subst h2
      exact absurd e.symm h5
    · rw [f.1 t h1 h2]
theorem Mt.afr {w w' : Wd} {c : Nat → Nat} {nr ti o sp dy : Nat} {wf : Nat → Nat} (h : Mt w c nr ti o sp dy wf) (f : AFr w w') : Mt w' c nr ti o sp dy wf := ⟨(f.2 5 (by decide)).trans h.1, h.2.fr (f.1 _ (sg_ne (by decide)) (sg_ne (by decide)))⟩
theorem op_turn {x : Int32} : Op jX_turn jM_turn [vI x] := by
  intro w hi
  obtain ⟨hb, c, nr, ti, o, sp, dy, wf, hok, hci, hma, m, xx, S, hm, hx, hac, ham, hos⟩ := id hi.2.2.2.2.2
  have hM : Mt w c nr ti o sp dy wf := ⟨hb, hma⟩
  have hc := hok.1
  have hd := hok.2.1
  have hc3 := hc.2.1
  have x3 : w (cit 0 0) 3 = nI (c 3) := hci.1.2.1
  rcases pk_or (x := x) (n := c 3) (by omega) with h1 | ⟨g, hg, rfl⟩
  · refine op_same hi (v := -(nI 1000001)) ?_ ?_
    · refine Cl.of rfl rfl rfl (lc := [some (vR (sg 0)), some (vI x)]) rfl ?_
      refine Rn.cs 60 rfl rfl rfl rfl (by rw [x3]; exact x_no (by omega) h1) (by decide) ?_
      refine Rn.if1f 60 rfl rfl (by dsimp only [tm_c2P]; decide) ?_
      exact Rn.ir 60 rfl rfl rfl rfl
    · refine Cl.of rfl rfl rfl (lc := [some (vR (sg 13)), some (vI x)]) rfl ?_
      refine Rn.cv 60 rfl rfl rfl rfl rfl (m_gno hc hM.pl h1) (by decide) ?_
      refine Rn.if1f 60 rfl rfl (by dsimp only [tm_c2P]; decide) ?_
      exact Rn.ir 60 rfl rfl rfl rfl
  obtain ⟨k1, k2⟩ := sp_keep hc hci.2.1 hm hx hac
  have g8 : 2 ^ g < 256 := Nat.lt_of_lt_of_le (Nat.pow_lt_pow_right (by decide) (show g < 8 by omega)) (Nat.le_refl _)
  have o8 : (o ^^^ 2 ^ g) < 256 := Nat.xor_lt_two_pow (n := 8) hd.2.2.1 g8
  have kc : CiIs (kpW w m xx o sp dy) 0 c nr ti o sp dy wf := hci.fr (fun p => kpW_cit)
  have kc2 := kc.opn (o' := o ^^^ 2 ^ g)
  have hM1 : Mt (wset (kpW w m xx o sp dy) (cit 0 0) 12 (nI (o ^^^ 2 ^ g))) c nr ti o sp dy wf := ⟨by rw [wset_ne sg_cit, kpW_sg (by omega)]; exact hb, hma.fr (by rw [wset_ne sg_cit, kpW_sg (by omega)])⟩
  have ham1 : AcM (wset (kpW w m xx o sp dy) (cit 0 0) 12 (nI (o ^^^ 2 ^ g))) (c 4) m S wf := ham.of (by rw [wset_ne sg_cit, kpW_sg (by omega)]) (by rw [wset_ne sg_cit, kpW_sg (by omega)])
  obtain ⟨w2, b1, b2, b3⟩ := m_know (y := -(nI 1000000)) hc hM1 hm ham1 (Or.inl rfl)
  have hM2 := hM1.afr b2
  have hM3 := hM2.opn (o' := o ^^^ 2 ^ g)
  refine ⟨wset (kpW w m xx o sp dy) (cit 0 0) 12 (nI (o ^^^ 2 ^ g)), wset w2 (sg 17) 6 (nI (o ^^^ 2 ^ g)), nI (o ^^^ 2 ^ g) >>> (nI g &&& 31) &&& nI 1, ?_, ?_, ?_⟩
  · refine Cl.of rfl rfl rfl (lc := [some (vR (sg 0)), some (vI (nI g))]) rfl ?_
    refine Rn.cs 60 rfl rfl rfl rfl (by rw [x3]; exact x_yes (by omega) hg) (by decide) ?_
    refine Rn.if1t 60 rfl rfl (by dsimp only [tm_c2P]; decide) ?_
    refine Rn.cv 60 rfl rfl rfl rfl rfl k1 (by decide) ?_
    have e1 : kpW w m xx o sp dy (cit 0 0) 12 ^^^ nI 1 <<< (nI g &&& 31) = nI (o ^^^ 2 ^ g) := by rw [kc.2.1.2.2.1, nJ_1shl (by omega), nJ_xor]
    refine Rn.at 9 (x := (43, [some (vR (sg 0)), some (vI (nI g))], [], wset (kpW w m xx o sp dy) (cit 0 0) 12 (nI (o ^^^ 2 ^ g)))) (by rw [← e1]; rfl) ?_
    refine Rn.ir 60 rfl rfl rfl ?_
    rw [wset_s]
  · refine Cl.of rfl rfl rfl (lc := [some (vR (sg 13)), some (vI (nI g))]) rfl ?_
    refine Rn.cv 60 rfl rfl rfl rfl rfl (m_gyes hc hM1.pl hg) (by decide) ?_
    refine Rn.if1t 60 rfl rfl (by dsimp only [tm_c2P]; decide) ?_
    refine Rn.cv 60 rfl rfl rfl rfl rfl b1 (by decide) ?_
    refine Rn.cv 60 rfl rfl rfl rfl rfl (m_get (k := 6) (v := nI o) hM2.1 rfl (by decide) hM2.2.2.2.2.2.2.2.1) (by decide) ?_
    have e1 : nI o ^^^ nI 1 <<< (nI g &&& 31) = nI (o ^^^ 2 ^ g) := by rw [nJ_1shl (by omega), nJ_xor]
    have pt := m_put (w := w2) (x := nI 6) (v := nI (o ^^^ 2 ^ g)) (k := 6) hM2.1 rfl (by decide)
    refine Rn.cv 60 rfl rfl rfl rfl rfl (by dsimp only; rw [e1]; exact pt) (by decide) ?_
    refine Rn.cv 60 rfl rfl rfl rfl rfl (m_get (k := 6) (v := nI (o ^^^ 2 ^ g)) hM3.1 rfl (by decide) wset_s) (by decide) ?_
    exact Rn.ir 60 rfl rfl rfl rfl
  · have fr2 : ∀ t, t ≠ sg 13 → t ≠ sg 19 → t ≠ sg 17 → wset w2 (sg 17) 6 (nI (o ^^^ 2 ^ g)) t = wset (kpW w m xx o sp dy) (cit 0 0) 12 (nI (o ^^^ 2 ^ g)) t := fun t h1 h2 h3 => by rw [wset_ne h3, b2.1 t h1 h2]
    refine hi.twn ⟨hM3.1, c, nr, ti, o ^^^ 2 ^ g, sp, dy, wf, ⟨hc, ⟨hd.1, hd.2.1, o8, hd.2.2.2.1, hd.2.2.2.2⟩, hok.2.2⟩, kc2.fr (fun p => fr2 _ cit_sg cit_sg cit_sg), hM3.2, kpM m + 1, (xx + 1) % 24, kpS m S (o, sp, dy, wf), by have := kpM_le (m := m); omega, Nat.mod_lt _ (by decide), k2.of (fun s s1 s2 j => by rw [fr2 _ (sg_ne (by omega)) (sg_ne (by omega)) (sg_ne (by omega)), wset_ne sg_cit]), (b3 wf (Or.inl ⟨rfl, fun _ _ => rfl⟩)).of (by rw [wset_ne (sg_ne (by decide))]) (wset_ne (sg_ne (by decide))), kpS_ok hm hok hos⟩ (fun n h5 h9 => ?_)
    refine (((kpW_same h5).tr (Same.set ?_)).tr (b2.same h5)).tr (Same.set ?_)
    all_goals exact fun z => h5 z.symm
theorem op_wish {x y : Int32} : Op jX_wish jM_wish [vI x, vI y] := by
  intro w hi
  obtain ⟨hb, c, nr, ti, o, sp, dy, wf, hok, hci, hma, m, xx, S, hm, hx, hac, ham, hos⟩ := id hi.2.2.2.2.2
  have hM : Mt w c nr ti o sp dy wf := ⟨hb, hma⟩
  have hc := hok.1
  have hd := hok.2.1
  have hc3 := hc.2.1
  have hc4 := hc.2.2.1
  have hp3 : 2 ^ c 3 ≤ 256 := Nat.pow_le_pow_right (n := 2) (by decide) hc3
  have x4 : w (cit 0 0) 4 = nI (c 4) := hci.1.2.2.1
  rcases pk_or (x := x) (n := c 4) (by omega) with h1 | ⟨p, hp, rfl⟩
  · refine op_same hi (v := -(nI 1000001)) ?_ ?_
    · refine Cl.of rfl rfl rfl (lc := [some (vR (sg 0)), some (vI x), some (vI y), none]) rfl ?_
      refine Rn.cs 60 rfl rfl rfl rfl (by rw [x4]; exact x_no (by omega) h1) (by decide) ?_
      refine Rn.if1t 60 rfl rfl (by dsimp only [tm_c2P]; decide) ?_
      exact Rn.ir 60 rfl rfl rfl rfl
    · refine Cl.of rfl rfl rfl (lc := [some (vR (sg 13)), some (vI x), some (vI y), none]) rfl ?_
      refine Rn.cv 60 rfl rfl rfl rfl rfl (m_pno hc hM.pl h1) (by decide) ?_
      refine Rn.if1t 60 rfl rfl (by dsimp only [tm_c2P]; decide) ?_
      exact Rn.ir 60 rfl rfl rfl rfl
  rcases pk_or (x := y) (n := 2 ^ c 3) (by omega) with h1 | ⟨s, hs, rfl⟩
  · refine op_same hi (v := -(nI 1000001)) ?_ ?_
    · refine Cl.of rfl rfl rfl (lc := [some (vR (sg 0)), some (vI (nI p)), some (vI y), none]) rfl ?_
      refine Rn.cs 60 rfl rfl rfl rfl (by rw [x4]; exact x_yes (by omega) hp) (by decide) ?_
      refine Rn.if1f 60 rfl rfl (by dsimp only [tm_c2P]; decide) ?_
      refine Rn.cv 60 rfl rfl rfl rfl rfl (x_wno hc hci.1.2.1 h1) (by decide) ?_
      refine Rn.if1f 60 rfl rfl (by dsimp only [tm_c2P]; decide) ?_
      exact Rn.ir 60 rfl rfl rfl rfl
    · refine Cl.of rfl rfl rfl (lc := [some (vR (sg 13)), some (vI (nI p)), some (vI y), none]) rfl ?_
      refine Rn.cv 60 rfl rfl rfl rfl rfl (m_pyes hc hM.pl hp) (by decide) ?_
      refine Rn.if1f 60 rfl rfl (by dsimp only [tm_c2P]; decide) ?_
      refine Rn.cv 60 rfl rfl rfl rfl rfl (m_wno hc hM.pl h1) (by decide) ?_
      refine Rn.if1f 60 rfl rfl (by dsimp only [tm_c2P]; decide) ?_
      exact Rn.ir 60 rfl rfl rfl rfl
  obtain ⟨k1, k2⟩ := sp_keep hc hci.2.1 hm hx hac
  have kc : CiIs (kpW w m xx o sp dy) 0 c nr ti o sp dy wf := hci.fr (fun p => kpW_cit)
  have kc2 := kc.wish (p := p) (v := s)
  have hM1 : Mt (wset (kpW w m xx o sp dy) (cit 0 7) p (nI s)) c nr ti o sp dy wf := ⟨by rw [wset_ne sg_cit, kpW_sg (by omega)]; exact hb, hma.fr (by rw [wset_ne sg_cit, kpW_sg (by omega)])⟩
  have ham1 : AcM (wset (kpW w m xx o sp dy) (cit 0 7) p (nI s)) (c 4) m S wf := ham.of (by rw [wset_ne sg_cit, kpW_sg (by omega)]) (by rw [wset_ne sg_cit, kpW_sg (by omega)])
  obtain ⟨w2, b1, b2, b3⟩ := m_know (y := nI p) hc hM1 hm ham1 (Or.inr ⟨p, hp, rfl⟩)
  have hM2 := hM1.afr b2
  have hM3 := hM2.wish hc (p := p) (v := s)
  have hdy : DyOk c nr ti o sp (upW wf p s) := hd.up (by omega)
  have kn : knY (c 4) wf (nI p) (upW wf p s) := Or.inr ⟨p, hp, rfl, fun q hq => by
    unfold upW
    by_cases e : q = p
    · rw [if_pos e, e]
    · rw [if_neg e, if_neg e]⟩
  refine ⟨wset (kpW w m xx o sp dy) (cit 0 7) p (nI s), wset w2 (sg 17) (27 + 5 * p) (nI s), nI (wf p), ?_, ?_, ?_⟩
  · refine Cl.of rfl rfl rfl (lc := [some (vR (sg 0)), some (vI (nI p)), some (vI (nI s)), none]) rfl ?_
    refine Rn.cs 60 rfl rfl rfl rfl (by rw [x4]; exact x_yes (by omega) hp) (by decide) ?_
    refine Rn.if1f 60 rfl rfl (by dsimp only [tm_c2P]; decide) ?_
    refine Rn.cv 60 rfl rfl rfl rfl rfl (x_wyes hc hci.1.2.1 hs) (by decide) ?_
    refine Rn.if1t 60 rfl rfl (by dsimp only [tm_c2P]; decide) ?_
    refine Rn.cv 60 rfl rfl rfl rfl rfl k1 (by decide) ?_
    refine Rn.al 60 rfl rfl rfl rfl (by omega) ?_
    rw [kc.2.1.2.2.2.2.2 p hp]
    refine Rn.as 60 rfl rfl rfl rfl (by omega) ?_
    exact Rn.ir 60 rfl rfl rfl rfl
  · refine Cl.of rfl rfl rfl (lc := [some (vR (sg 13)), some (vI (nI p)), some (vI (nI s)), none]) rfl ?_
    refine Rn.cv 60 rfl rfl rfl rfl rfl (m_pyes hc hM1.pl hp) (by decide) ?_
    refine Rn.if1f 60 rfl rfl (by dsimp only [tm_c2P]; decide) ?_
    refine Rn.cv 60 rfl rfl rfl rfl rfl (m_wyes hc hM1.pl hs) (by decide) ?_
    refine Rn.if1t 60 rfl rfl (by dsimp only [tm_c2P]; decide) ?_
    refine Rn.cv 60 rfl rfl rfl rfl rfl b1 (by decide) ?_
    have q10 := (hM2.2.2.2.2.2.2.2.2.2.2 p hp).2.2.2.1
    rw [Nat.zero_add] at q10
    refine Rn.cv 60 rfl rfl rfl rfl rfl (m_pers (p := p) (k := 3) (v := nI (wf p)) hM2.1 (by omega) (by rw [show 24 + 5 * p + 3 = 27 + 5 * p by omega]; exact q10)) (by decide) ?_
    refine Rn.cv 60 rfl rfl rfl rfl rfl (m_put (k := 27 + 5 * p) hM2.1 (by dsimp only; rw [pk_mul, nI_add, nI_add, show 24 + 5 * p + 3 = 27 + 5 * p by omega]) (by omega)) (by decide) ?_
    exact Rn.ir 60 rfl rfl rfl rfl
  · have fr2 : ∀ t, t ≠ sg 13 → t ≠ sg 19 → t ≠ sg 17 → wset w2 (sg 17) (27 + 5 * p) (nI s) t = wset (kpW w m xx o sp dy) (cit 0 7) p (nI s) t := fun t h1 h2 h3 => by rw [wset_ne h3, b2.1 t h1 h2]
    refine hi.twn ⟨hM3.1, c, nr, ti, o, sp, dy, upW wf p s, ⟨hc, hdy, hok.2.2⟩, kc2.fr (fun p => fr2 _ cit_sg cit_sg cit_sg), hM3.2, kpM m + 1, (xx + 1) % 24, kpS m S (o, sp, dy, wf), by have := kpM_le (m := m); omega, Nat.mod_lt _ (by decide), k2.of (fun s s1 s2 j => by rw [fr2 _ (sg_ne (by omega)) (sg_ne (by omega)) (sg_ne (by omega)), wset_ne sg_cit]), (b3 _ kn).of (by rw [wset_ne (sg_ne (by decide))]) (wset_ne (sg_ne (by decide))), kpS_ok hm hok hos⟩ (fun n h5 h9 => ?_)
    refine (((kpW_same h5).tr (Same.set ?_)).tr (b2.same h5)).tr (Same.set ?_)
    · exact fun z => h5 z.symm
    · rw [own_now (by omega)]
      exact fun z => h5 z.symm
end
section
/-! dawn -/
def dwM : Nat → Nat → Nat
  | 0, m => m
  | n + 1, m => dwM n (kpM m + 1)
def dwS (c : Nat → Nat) (nr ti : Nat) (wf : Nat → Nat) : Nat → Nat → (Nat → Sn) → NN → Nat → (Nat → Sn)
  | 0, _, S, _, _ => S
  | n + 1, m, S, q, dy => dwS c nr ti wf n (kpM m + 1) (kpS m S (q.1, q.2, dy, wf)) (da c nr ti wf q) (dy + 1)
def XFr (w w' : Wd) : Prop := ∀ t, (∀ p, t ≠ cit 0 p) → (∀ s, 5 ≤ s → s ≤ 9 → t ≠ sg s) → w' t = w t
theorem dw_ok {c : Nat → Nat} {nr ti : Nat} {wf : Nat → Nat} (hc : PlOk c) : ∀ n m S o sp dy, m ≤ 24 → CtOk c nr ti o sp dy wf → dy + n ≤ 999 → (∀ i, i < m → CtOk c nr ti (S i).1 (S i).2.1 (S i).2.2.1 (S i).2.2.2) → dwM n m ≤ 24 ∧ CtOk c nr ti (daI c nr ti wf n (o, sp)).1 (daI c nr ti wf n (o, sp)).2 (dy + n) wf ∧ ∀ i, i < dwM n m → CtOk c nr ti (dwS c nr ti wf n m S (o, sp) dy i).1 (dwS c nr ti wf n m S (o, sp) dy i).2.1 (dwS c nr ti wf n m S (o, sp) dy i).2.2.1 (dwS c nr ti wf n m S (o, sp) dy i).2.2.2
  | 0, m, S, o, sp, dy, hm, hok, _, hos => ⟨hm, hok, hos⟩
  | n + 1, m, S, o, sp, dy, hm, hok, hdy, hos => by
    have := dw_ok (wf := wf) hc n (kpM m + 1) (kpS m S (o, sp, dy, wf)) (da c nr ti wf (o, sp)).1 (da c nr ti wf (o, sp)).2 (dy + 1) (by have := kpM_le (m := m); omega) ⟨hc, hok.2.1.da hc, by omega, hok.2.2.2⟩ (by omega) (kpS_ok hm hok hos)
    rw [show dy + (n + 1) = dy + 1 + n by omega]
    exact this
theorem x_dawns {c : Nat → Nat} {nr ti N : Nat} {wf : Nat → Nat} (hc : PlOk c) (hN : N ≤ 20) : ∀ n i w o sp dy m x S, i + n = N → CiIs w 0 c nr ti o sp dy wf → DyOk c nr ti o sp wf → m ≤ 24 → x < 24 → AcC w (c 4) m x S → ∃ w' x', x' < 24 ∧ XFr w w' ∧ CiIs w' 0 c nr ti (daI c nr ti wf n (o, sp)).1 (daI c nr ti wf n (o, sp)).2 (dy + n) wf ∧ AcC w' (c 4) (dwM n m) x' (dwS c nr ti wf n m S (o, sp) dy) ∧ ∀ r, Rn none 19 jX_dawn (76, [some (vR (sg 0)), some (vI (nI N)), some (vI (nI N))], [], w') r → Rn none 19 jX_dawn (47, [some (vR (sg 0)), some (vI (nI N)), some (vI (nI i))], [], w) r := by
  intro n
  induction n with
  | zero =>
    intro i w o sp dy m x S hi hci hd hm hx hac
    obtain rfl : i = N := by omega
    exact ⟨w, x, hx, fun _ _ _ => rfl, hci, hac, fun r k => Rn.if2t 60 rfl rfl (nI_le (Nat.le_refl _) (by omega)) k⟩
  | succ n ih =>
    intro i w o sp dy m x S hi hci hd hm hx hac
    obtain ⟨k1, k2⟩ := sp_keep hc hci.2.1 hm hx hac
    have kc : CiIs (kpW w m x o sp dy) 0 c nr ti o sp dy wf := hci.fr (fun p => kpW_cit)
    obtain ⟨w2, r1, r2, r3⟩ := sp_rise hc kc hd
    obtain ⟨w', x', a1, a2, a3, a4, a5⟩ := ih (i + 1) w2 _ _ (dy + 1) (kpM m + 1) ((x + 1) % 24) _ (by omega) r3 (hd.da hc) (by have := kpM_le (m := m); omega) (Nat.mod_lt _ (by decide)) (k2.of (fun s _ _ j => by rw [r2 _ (fun p => sg_cit)]))
    refine ⟨w', x', a1, fun t h1 h2 => (a2 t h1 h2).trans ((r2 t h1).trans (kpW_fr h2)), ?_, a4, fun r k => ?_⟩
    · rw [show dy + (n + 1) = dy + 1 + n by omega]
      exact a3
    · have k3 := a5 r k
      rw [nI_succ i] at k3
      refine Rn.if2f 60 rfl rfl (nI_ge (by omega) (by omega)) ?_
      refine Rn.cv 60 rfl rfl rfl rfl rfl k1 (by decide) ?_
      refine Rn.cv 60 rfl rfl rfl rfl rfl r1 (by decide) ?_
      exact Rn.at 2 rfl k3
/-- what the reference writes of a dawn -/
def DFr (w w' : Wd) : Prop := (∀ t, t ≠ sg 13 → t ≠ sg 17 → t ≠ sg 19 → t ≠ sg 21 → w' t = w t) ∧ (∀ j, j ≠ 8 → j ≠ 18 → j ≠ 19 → j ≠ 21 → j ≠ 22 → w' (sg 13) j = w (sg 13) j) ∧ ∀ j, 49 ≤ j → w' (sg 17) j = w (sg 17) j
theorem DFr.tr {w w1 w2 : Wd} (h1 : DFr w w1) (h2 : DFr w1 w2) : DFr w w2 := ⟨fun t a b d e => (h2.1 t a b d e).trans (h1.1 t a b d e), fun j a b d e f => (h2.2.1 j a b d e f).trans (h1.2.1 j a b d e f), fun j a => (h2.2.2 j a).trans (h1.2.2 j a)⟩
theorem DFr.a {w w' : Wd} (h : AFr w w') : DFr w w' := ⟨fun t a _ b _ => h.1 t a b, fun j a _ _ _ _ => h.2 j a, fun j _ => by rw [h.1 _ (sg_ne (by decide)) (sg_ne (by decide))]⟩
theorem DFr.m {w w' : Wd} (h : MFr w w') : DFr w w' := ⟨fun t a _ _ b => h.1 t a b, fun j _ a b d e => h.2 j a b d e, fun j _ => by rw [h.1 _ (sg_ne (by decide)) (sg_ne (by decide))]⟩
theorem DFr.p {w : Wd} {k : Nat} {x : Int32} (hk : k < 49) : DFr w (wset w (sg 17) k x) := ⟨fun t _ a _ _ => wset_ne a, fun j _ _ _ _ _ => by rw [wset_ne (sg_ne (by decide))], fun j hj => wset_k (by omega)⟩
theorem DFr.same {w w' : Wd} (h : DFr w w') {n : Nat} (h5 : n ≠ 5) (h9 : n ≠ 9) : Same n w w' := fun t j e => by
  by_cases h13 : t = sg 13
  · subst h13
    refine h.2.1 j (fun z => ?_) (fun z => ?_) (fun z => ?_) (fun z => ?_) (fun z => ?_)
    all_goals
      subst z
      first
      | exact h5 e.symm
      | exact h9 e.symm
  · by_cases h17 : t = sg 17
    · subst h17
      refine h.2.2 j ?_
      apply Classical.byContradiction
      intro z
      rw [own_now (by omega)] at e
      exact h5 e.symm
    · by_cases h19 : t = sg 19
      · subst h19
        exact absurd e.symm h5
      · by_cases h21 : t = sg 21
        · subst h21
          exact absurd e.symm h9
        · rw [h.1 t h13 h17 h19 h21]
theorem m_dawnsN {c : Nat → Nat} {nr ti N : Nat} {wf : Nat → Nat} (hc : PlOk c) (hN : N ≤ 20) : ∀ n i w o sp dy m S, i + n = N → Mt w c nr ti o sp dy wf → DyOk c nr ti o sp wf → m ≤ 24 → AcM w (c 4) m S wf → ∃ w', DFr w w' ∧ Mt w' c nr ti (daI c nr ti wf n (o, sp)).1 (daI c nr ti wf n (o, sp)).2 (dy + n) wf ∧ AcM w' (c 4) (dwM n m) (dwS c nr ti wf n m S (o, sp) dy) wf ∧ ∀ r, Rn none 19 jM_dawn (98, [some (vR (sg 13)), some (vI (nI N)), some (vI (nI N))], [], w') r → Rn none 19 jM_dawn (41, [some (vR (sg 13)), some (vI (nI N)), some (vI (nI i))], [], w) r := by
  intro n
  induction n with
  | zero =>
    intro i w o sp dy m S hi hM hd hm ham
    obtain rfl : i = N := by omega
    exact ⟨w, ⟨fun _ _ _ _ _ => rfl, fun _ _ _ _ _ _ => rfl, fun _ _ => rfl⟩, hM, ham, fun r k => Rn.if2t 60 rfl rfl (nI_le (Nat.le_refl _) (by omega)) k⟩
  | succ n ih =>
    intro i w o sp dy m S hi hM hd hm ham
    obtain ⟨w1, a1, a2, a3⟩ := m_know (y := -(nI 1000000)) hc hM hm ham (Or.inl rfl)
    have hM1 := hM.afr a2
    obtain ⟨w2, b1, b2, b3⟩ := m_begin hc hM1.1 hM1.2
    have hM2 := hM1.mfr b2
    obtain ⟨w3, d1, d2, d3⟩ := m_dawns hc hM2.pl b3 hd
    have hM3 := hM2.mfr d2
    have hM4 := hM3.opn (o' := (da c nr ti wf (o, sp)).1)
    have hM5 := hM4.spent (sp' := (da c nr ti wf (o, sp)).2)
    have hM6 := hM5.day (dy' := dy + 1)
    have fr := ((((DFr.a a2).tr (DFr.m (b2.tr d2))).tr (DFr.p (k := 6) (x := nI (da c nr ti wf (o, sp)).1) (by decide))).tr (DFr.p (k := 7) (x := nI (da c nr ti wf (o, sp)).2) (by decide))).tr (DFr.p (k := 5) (x := nI (dy + 1)) (by decide))
    have ham6 : AcM (wset (wset (wset w3 (sg 17) 6 (nI (da c nr ti wf (o, sp)).1)) (sg 17) 7 (nI (da c nr ti wf (o, sp)).2)) (sg 17) 5 (nI (dy + 1))) (c 4) (kpM m + 1) (kpS m S (o, sp, dy, wf)) wf := (a3 wf (Or.inl ⟨rfl, fun _ _ => rfl⟩)).of (by rw [wset_ne (sg_ne (by decide)), wset_ne (sg_ne (by decide)), wset_ne (sg_ne (by decide)), (b2.tr d2).2 8 (by decide) (by decide) (by decide) (by decide)]) (by rw [wset_ne (sg_ne (by decide)), wset_ne (sg_ne (by decide)), wset_ne (sg_ne (by decide)), (b2.tr d2).1 _ (sg_ne (by decide)) (sg_ne (by decide))])
    obtain ⟨w', e1, e2, e3, e4⟩ := ih (i + 1) _ _ _ (dy + 1) (kpM m + 1) _ (by omega) hM6 (hd.da hc) (by have := kpM_le (m := m); omega) ham6
    refine ⟨w', fr.tr e1, ?_, e3, fun r k => ?_⟩
    · rw [show dy + (n + 1) = dy + 1 + n by omega]
      exact e2
    · have k3 := e4 r k
      rw [nI_succ i] at k3
      refine Rn.if2f 60 rfl rfl (nI_ge (by omega) (by omega)) ?_
      refine Rn.cv 60 rfl rfl rfl rfl rfl a1 (by decide) ?_
      refine Rn.cv 60 rfl rfl rfl rfl rfl b1 (by decide) ?_
      refine Rn.cv 60 rfl rfl rfl rfl rfl d1 (by decide) ?_
      have p6 := m_put (w := w3) (x := nI 6) (v := nI (da c nr ti wf (o, sp)).1) (k := 6) hM3.1 rfl (by decide)
      rw [← d3.1] at p6
      refine Rn.cv 60 rfl rfl rfl rfl rfl p6 (by decide) ?_
      rw [d3.1]
      have s19 : wset w3 (sg 17) 6 (nI (da c nr ti wf (o, sp)).1) (sg 13) 19 = nI (da c nr ti wf (o, sp)).2 := by rw [wset_ne (sg_ne (by decide))]; exact d3.2.1
      have p7 := m_put (w := wset w3 (sg 17) 6 (nI (da c nr ti wf (o, sp)).1)) (x := nI 7) (v := nI (da c nr ti wf (o, sp)).2) (k := 7) hM4.1 rfl (by decide)
      rw [← s19] at p7
      refine Rn.cv 60 rfl rfl rfl rfl rfl p7 (by decide) ?_
      rw [s19]
      refine Rn.cv 60 rfl rfl rfl rfl rfl (m_get (k := 5) (v := nI dy) hM5.1 rfl (by decide) hM5.2.2.2.2.2.2.1) (by decide) ?_
      have p5 := m_put (w := wset (wset w3 (sg 17) 6 (nI (da c nr ti wf (o, sp)).1)) (sg 17) 7 (nI (da c nr ti wf (o, sp)).2)) (x := nI 5) (v := nI (dy + 1)) (k := 5) hM5.1 rfl (by decide)
      rw [← nI_add dy 1] at p5
      refine Rn.cv 60 rfl rfl rfl rfl rfl p5 (by decide) ?_
      rw [nI_add dy 1]
      exact Rn.at 2 rfl k3
theorem op_dawn {x : Int32} : Op jX_dawn jM_dawn [vI x] := by
  intro w hi
  obtain ⟨hb, c, nr, ti, o, sp, dy, wf, hok, hci, hma, m, xx, S, hm, hx, hac, ham, hos⟩ := id hi.2.2.2.2.2
  have hM : Mt w c nr ti o sp dy wf := ⟨hb, hma⟩
  have hc := hok.1
  have hd := hok.2.1
  have d999 := hok.2.2.1
  have hc0 := hc.1
  by_cases h0 : 0 < c 0
  · have cx : ∀ {r0 : Rs}, Rn none 19 jX_dawn (13, [some (vR (sg 0)), some (vI x), none], [], w) r0 → Cl 20 jX_dawn [vR (sg 0), vI x] w r0 := by
      intro r0 k
      refine Cl.of rfl rfl rfl (lc := [some (vR (sg 0)), some (vI x), none]) rfl ?_
      refine Rn.cv 60 rfl rfl rfl rfl rfl (x_there hc hci) (by decide) ?_
      rw [decide_eq_true h0]
      exact Rn.if1t 60 rfl rfl (by dsimp only [tm_c2P]; decide) k
    have cm : ∀ {w : Wd} {r0 : Rs}, Mt w c nr ti o sp dy wf → Rn none 19 jM_dawn (10, [some (vR (sg 13)), some (vI x), none], [], w) r0 → Cl 20 jM_dawn [vR (sg 13), vI x] w r0 := by
      intro w r0 hM k
      refine Cl.of rfl rfl rfl (lc := [some (vR (sg 13)), some (vI x), none]) rfl ?_
      refine Rn.cv 60 rfl rfl rfl rfl rfl (m_hasCity hc hM.pl) (by decide) ?_
      rw [decide_eq_true h0]
      exact Rn.if1t 60 rfl rfl (by dsimp only [tm_c2P]; decide) k
    rcases pk_or1 (x := x) (n := 20) (by omega) with h1 | ⟨n, n1, n20, rfl⟩
    · refine op_same hi (v := -(nI 1000001)) (cx ?_) (cm hM ?_)
      · refine Rn.if2 60 rfl rfl (fun _ => Rn.ir 60 rfl rfl rfl rfl) (fun h2 => ?_)
        refine Rn.if2f 60 rfl rfl (Int32.not_le.mpr (h1.resolve_left h2)) ?_
        exact Rn.ir 60 rfl rfl rfl rfl
      · refine Rn.cs 60 rfl rfl rfl rfl (m_no1 h1) (by decide) ?_
        refine Rn.if1f 60 rfl rfl (by dsimp only [tm_c2P]; decide) ?_
        exact Rn.ir 60 rfl rfl rfl rfl
    have dx : ∀ {r0 : Rs}, Rn none 19 jX_dawn (27, [some (vR (sg 0)), some (vI (nI n)), none], [], w) r0 → Cl 20 jX_dawn [vR (sg 0), vI (nI n)] w r0 := by
      intro r0 k
      refine cx ?_
      refine Rn.if2f 60 rfl rfl (nI_nlt n1 (by omega)) ?_
      exact Rn.if2t 60 rfl rfl (nI_le (by omega) (by decide)) k
    have em : ∀ {w : Wd} {r0 : Rs}, Mt w c nr ti o sp dy wf → (999 < dy + n → r0 = (some (vI (-(nI 1000003))), w)) → (dy + n ≤ 999 → Rn none 19 jM_dawn (39, [some (vR (sg 13)), some (vI (nI n)), none], [], w) r0) → Cl 20 jM_dawn [vR (sg 13), vI (nI n)] w r0 := by
      intro w r0 hM kb kg
      refine cm hM ?_
      refine Rn.cs 60 rfl rfl rfl rfl (m_yes1 (n := 20) (by decide) (by omega) n1) (by decide) ?_
      refine Rn.if1t 60 rfl rfl (by dsimp only [tm_c2P]; decide) ?_
      refine Rn.cv 60 rfl rfl rfl rfl rfl (m_get (k := 5) (v := nI dy) hM.1 rfl (by decide) hM.2.2.2.2.2.2.1) (by decide) ?_
      rcases Nat.lt_or_ge 999 (dy + n) with hl | hl
      · refine Rn.if2f 60 rfl rfl (by dsimp only [tm_c2P]; rw [nI_add, Int32.not_le]; exact nI_lt hl (by omega)) ?_
        rw [kb hl]
        exact Rn.ir 60 rfl rfl rfl rfl
      · exact Rn.if2t 60 rfl rfl (by dsimp only [tm_c2P]; rw [nI_add]; exact nI_le hl (by decide)) (kg hl)
    rcases Nat.lt_or_ge 999 (dy + n) with hl | hl
    · refine op_same hi (v := -(nI 1000003)) (dx ?_) (em hM (fun _ => rfl) (fun z => by omega))
      refine Rn.if2f 60 rfl rfl (by dsimp only [tm_c2P]; rw [hci.2.1.2.2.2.2.1, nI_add, Int32.not_le]; exact nI_lt hl (by omega)) ?_
      exact Rn.ir 60 rfl rfl rfl rfl
    · obtain ⟨w1, x', a1, a2, a3, a4, a5⟩ := x_dawns (N := n) hc n20 n 0 w o sp dy m xx S (by omega) hci hd hm hx hac
      have esg : ∀ s, (s < 5 ∨ 9 < s) → w1 (sg s) = w (sg s) := fun s hs => a2 _ (fun p => sg_cit) (fun s' h1 h2 => sg_ne (by omega))
      have hM1 : Mt w1 c nr ti o sp dy wf := ⟨by rw [esg 13 (by omega)]; exact hb, hma.fr (esg 17 (by omega))⟩
      have ham1 : AcM w1 (c 4) m S wf := ham.of (by rw [esg 13 (by omega)]) (esg 19 (by omega))
      obtain ⟨w2, b1, b2, b3, b4⟩ := m_dawnsN (N := n) hc n20 n 0 w1 o sp dy m S (by omega) hM1 hd hm ham1
      obtain ⟨k1, k2, k3⟩ := dw_ok (wf := wf) hc n m S o sp dy hm hok hl hos
      refine ⟨w1, w2, nI (daI c nr ti wf n (o, sp)).1, dx ?_, em hM1 (fun z => by omega) (fun _ => ?_), ?_⟩
      · refine Rn.if2t 60 rfl rfl (by dsimp only [tm_c2P]; rw [hci.2.1.2.2.2.2.1, nI_add]; exact nI_le hl (by decide)) ?_
        refine Rn.at 2 rfl (a5 _ ?_)
        rw [← a3.2.1.2.2.1]
        exact Rn.ir 60 rfl rfl rfl rfl
      · refine Rn.at 2 rfl (b4 _ ?_)
        refine Rn.cv 60 rfl rfl rfl rfl rfl (m_get (k := 6) (v := nI (daI c nr ti wf n (o, sp)).1) b2.1 rfl (by decide) b2.2.2.2.2.2.2.2.1) (by decide) ?_
        exact Rn.ir 60 rfl rfl rfl rfl
      · refine hi.twn ⟨b2.1, c, nr, ti, _, _, dy + n, wf, k2, a3.fr (fun p => b1.1 _ cit_sg cit_sg cit_sg cit_sg), b2.2, dwM n m, x', _, k1, a1, a4.of (fun s s1 s2 j => by rw [b1.1 _ (sg_ne (by omega)) (sg_ne (by omega)) (sg_ne (by omega)) (sg_ne (by omega))]), b3, k3⟩ (fun q h5 h9 => ?_)
        refine Same.tr (w1 := w1) (fun t j e => ?_) (b1.same h5 h9)
        rw [a2 t (fun p z => by subst z; exact h5 e.symm) (fun s s1 s2 z => by subst z; exact h5 (e.symm.trans (own_acts s s1 s2 j)))]
  · refine op_same hi (v := -(nI 1000002)) ?_ ?_
    · refine Cl.of rfl rfl rfl (lc := [some (vR (sg 0)), some (vI x), none]) rfl ?_
      refine Rn.cv 60 rfl rfl rfl rfl rfl (x_there hc hci) (by decide) ?_
      rw [decide_eq_false h0]
      refine Rn.if1f 60 rfl rfl (by dsimp only [tm_c2P]; decide) ?_
      exact Rn.ir 60 rfl rfl rfl rfl
    · refine Cl.of rfl rfl rfl (lc := [some (vR (sg 13)), some (vI x), none]) rfl ?_
      refine Rn.cv 60 rfl rfl rfl rfl rfl (m_hasCity hc hM.pl) (by decide) ?_
      rw [decide_eq_false h0]
      refine Rn.if1f 60 rfl rfl (by dsimp only [tm_c2P]; decide) ?_
      exact Rn.ir 60 rfl rfl rfl rfl
end
section
/-! undo -/
theorem MaIs.cw {w : Wd} {b : Nat} {c : Nat → Nat} {nr ti o sp dy : Nat} {wf wf' : Nat → Nat} (h : MaIs w b c nr ti o sp dy wf) (e : ∀ p, p < c 4 → wf p = wf' p) : MaIs w b c nr ti o sp dy wf' := by
  obtain ⟨h1, h2, h3, h4, h5, h6, h7, h8, h9, h10⟩ := h
  exact ⟨h1, h2, h3, h4, h5, h6, h7, h8, h9, fun p hp => by rw [← e p hp]; exact h10 p hp⟩
def tbW (w : Wd) (m x o sp dy : Nat) : Wd := cpW (wset (wset (wset (wset (wset w (sg 5) 1 (nI x)) (sg 5) 0 (nI m)) (cit 0 0) 12 (nI o)) (cit 0 0) 13 (nI sp)) (cit 0 0) 14 (nI dy)) (sg 9) (cit 0 7) (x * 5) 0 5
theorem sp_takeBack {w : Wd} {c : Nat → Nat} {nr ti o sp dy m x : Nat} {wf : Nat → Nat} {S : Nat → Sn} (hc : PlOk c) (hci : CiIs w 0 c nr ti o sp dy wf) (hm : m < 24) (hx : x < 24) (h : AcC w (c 4) (m + 1) x S) : Cl 2 jA_takeBack [vR (sg 5), vR (cit 0 0)] w (some (vI (bI true)), tbW w m ((x + 23) % 24) (S m).1 (S m).2.1 (S m).2.2.1) ∧ AcC (tbW w m ((x + 23) % 24) (S m).1 (S m).2.1 (S m).2.2.1) (c 4) m ((x + 23) % 24) S ∧ CiIs (tbW w m ((x + 23) % 24) (S m).1 (S m).2.1 (S m).2.2.1) 0 c nr ti (S m).1 (S m).2.1 (S m).2.2.1 (S m).2.2.2 := by
  have hc4 := hc.2.2.1
  obtain ⟨h0, h1, h2⟩ := h
  obtain ⟨g1, g2, g3, g4⟩ := h2 m (by omega)
  have ej : (x + 24 - (m + 1) + m) % 24 = (x + 23) % 24 := by omega
  rw [ej] at g1 g2 g3 g4
  have hj : (x + 23) % 24 < 24 := Nat.mod_lt _ (by decide)
  generalize hjj : (x + 23) % 24 = j at *
  refine ⟨?_, ⟨?_, ?_, fun i hi => ?_⟩, ?_⟩
  · refine Cl.of rfl rfl rfl (lc := [some (vR (sg 5)), some (vR (cit 0 0))]) rfl ?_
    refine Rn.if1t 60 rfl rfl (by dsimp only [tm_c2P]; rw [h0]; exact nI_ne0 (by omega) (by omega)) ?_
    have ex : (nI x + nI 24 - nI 1) - (nI x + nI 24 - nI 1) / nI 24 * nI 24 = nI j := by
      rw [nI_add, pk_sub (by omega), pk_rem (by omega) (by decide) (by decide), show x + 24 - 1 = x + 23 by omega, hjj]
    have ek : wset w (sg 5) 1 (nI j) (sg 5) 0 - nI 1 = nI m := by
      rw [wset_k (by decide), h0, pk_sub (by omega)]
      rfl
    refine Rn.at 16 (x := (35, [some (vR (sg 5)), some (vR (cit 0 0))], [], wset (wset w (sg 5) 1 (nI j)) (sg 5) 0 (nI m))) (by rw [← ek, ← ex, ← h1]; rfl) ?_
    have n1 : ∀ {W : Wd} {k : Nat} {z : Int32}, W (sg 5) 1 = nI j → wset W (cit 0 0) k z (sg 5) 1 = nI j := fun hW => by rw [wset_ne sg_cit]; exact hW
    have n0 : wset (wset w (sg 5) 1 (nI j)) (sg 5) 0 (nI m) (sg 5) 1 = nI j := by rw [wset_k (by decide), wset_s]
    have r : ∀ s, s ≠ 5 → wset (wset w (sg 5) 1 (nI j)) (sg 5) 0 (nI m) (sg s) = w (sg s) := fun s hs => by rw [wset_ne (sg_ne hs), wset_ne (sg_ne hs)]
    refine Rn.al 60 rfl rfl rfl n0 hj ?_
    rw [r 6 (by decide), g1]
    refine Rn.al 60 rfl rfl rfl (n1 n0) hj ?_
    rw [wset_ne sg_cit, r 7 (by decide), g2]
    refine Rn.al 60 rfl rfl rfl (n1 (n1 n0)) hj ?_
    rw [wset_ne sg_cit, wset_ne sg_cit, r 8 (by decide), g3]
    have cp := cl_copy (w := wset (wset (wset (wset (wset w (sg 5) 1 (nI j)) (sg 5) 0 (nI m)) (cit 0 0) 12 (nI (S m).1)) (cit 0 0) 13 (nI (S m).2.1)) (cit 0 0) 14 (nI (S m).2.2.1)) (s := sg 9) (d := cit 0 7) (a := j * 5) (b := 0) (n := 5) (n0 := 120) (n1 := 5) rfl rfl (by omega) (by omega)
    rw [← pk_mul, ← n1 (k := 14) (z := nI (S m).2.2.1) (n1 (k := 13) (z := nI (S m).2.1) (n1 (k := 12) (z := nI (S m).1) n0))] at cp
    refine Rn.cs 60 rfl rfl rfl rfl cp (by decide) ?_
    exact Rn.zr 60 rfl rfl rfl (by decide) rfl
  · unfold tbW
    rw [cpW_ne sg_cit, wset_ne sg_cit, wset_ne sg_cit, wset_ne sg_cit, wset_s]
  · unfold tbW
    rw [cpW_ne sg_cit, wset_ne sg_cit, wset_ne sg_cit, wset_ne sg_cit, wset_k (by decide), wset_s]
  · obtain ⟨f1, f2, f3, f4⟩ := h2 i (by omega)
    rw [show (x + 24 - (m + 1) + i) % 24 = (j + 24 - m + i) % 24 by omega] at f1 f2 f3 f4
    have r : ∀ s, s ≠ 5 → tbW w m j (S m).1 (S m).2.1 (S m).2.2.1 (sg s) = w (sg s) := fun s hs => by
      unfold tbW
      rw [cpW_ne sg_cit, wset_ne sg_cit, wset_ne sg_cit, wset_ne sg_cit, wset_ne (sg_ne hs), wset_ne (sg_ne hs)]
    rw [r 6 (by decide), r 7 (by decide), r 8 (by decide), r 9 (by decide)]
    exact ⟨f1, f2, f3, f4⟩
  · obtain ⟨c1, ⟨d1, d2, d3, d4, d5, d6⟩, c3⟩ := hci
    have r0 : ∀ k, tbW w m j (S m).1 (S m).2.1 (S m).2.2.1 (cit 0 0) k = if k = 14 then nI (S m).2.2.1 else if k = 13 then nI (S m).2.1 else if k = 12 then nI (S m).1 else w (cit 0 0) k := by
      intro k
      unfold tbW
      rw [cpW_ne (cit_p (by decide))]
      by_cases e14 : k = 14
      · subst e14
        rw [wset_s, if_pos rfl]
      · rw [wset_k e14, if_neg e14]
        by_cases e13 : k = 13
        · subst e13
          rw [wset_s, if_pos rfl]
        · rw [wset_k e13, if_neg e13]
          by_cases e12 : k = 12
          · subst e12
            rw [wset_s, if_pos rfl]
          · rw [wset_k e12, if_neg e12, wset_ne cit_sg, wset_ne cit_sg]
    have rp : ∀ p, p ≠ 0 → p ≠ 7 → tbW w m j (S m).1 (S m).2.1 (S m).2.2.1 (cit 0 p) = w (cit 0 p) := by
      intro p hp hp7
      unfold tbW
      rw [cpW_ne (cit_p hp7), wset_ne (cit_p hp), wset_ne (cit_p hp), wset_ne (cit_p hp), wset_ne cit_sg, wset_ne cit_sg]
    refine ⟨c1.of (r0 0) (r0 3) (r0 4) (fun p p1 p2 => rp p (by omega) (by omega)), ⟨(r0 1).trans d1, (r0 2).trans d2, r0 12, r0 13, r0 14, fun p hp => ?_⟩, ?_⟩
    · unfold tbW cpW va_cpy
      rw [if_pos rfl, if_pos (by omega), wset_ne sg_cit, wset_ne sg_cit, wset_ne sg_cit, wset_ne (sg_ne (by decide)), wset_ne (sg_ne (by decide)), show j * 5 + (p - 0) = 5 * j + p by omega]
      exact g4 p hp
    · rcases c3 with z | ⟨mo, z1, z2, z3⟩
      · exact Or.inl ((r0 16).trans z)
      · exact Or.inr ⟨mo, z1, (r0 16).trans z2, z3.of (rp 8 (by decide) (by decide))⟩
theorem AcM.cut {w w' : Wd} {P m : Nat} {S : Nat → Sn} {wf : Nat → Nat} (h : AcM w P (m + 1) S wf) (e13 : w' (sg 13) 8 = nI m) (e19 : w' (sg 19) = w (sg 19)) : AcM w' P m S (S m).2.2.2 := by
  refine ⟨e13, fun i hi => ?_⟩
  have h1 := h.2 i (by omega)
  rw [if_neg (by omega)] at h1
  have h2 : AcM1 w P i (S i) (if i + 1 = m then (S m).2.2.2 else (S (i + 1)).2.2.2) := by
    by_cases e : i + 1 = m
    · rw [if_pos e]
      subst e
      exact h1
    · rw [if_neg e]
      exact h1
  exact h2.of (fun j _ => by rw [e19])
theorem op_undo : Op jX_undo jM_undo [] := by
  intro w hi
  obtain ⟨hb, c, nr, ti, o, sp, dy, wf, hok, hci, hma, m0, xx, S, hm, hx, hac, ham, hos⟩ := id hi.2.2.2.2.2
  have hM : Mt w c nr ti o sp dy wf := ⟨hb, hma⟩
  have hc := hok.1
  have hc4 := hc.2.2.1
  cases m0 with
  | zero =>
    refine op_same hi (v := -(nI 1000002)) ?_ ?_
    · have tb : Cl 1 jA_takeBack [vR (sg 5), vR (cit 0 0)] w (some (vI (bI false)), w) := by
        refine Cl.of rfl rfl rfl (lc := [some (vR (sg 5)), some (vR (cit 0 0))]) rfl ?_
        refine Rn.if1f 60 rfl rfl (by dsimp only [tm_c2P]; rw [hac.1]; decide) ?_
        exact Rn.zr 60 rfl rfl rfl (by decide) rfl
      refine Cl.of rfl rfl rfl (lc := [some (vR (sg 0))]) rfl ?_
      refine Rn.cv 60 rfl rfl rfl rfl rfl tb (by decide) ?_
      refine Rn.if1t 60 rfl rfl (by dsimp only [tm_c2P]; decide) ?_
      exact Rn.ir 60 rfl rfl rfl rfl
    · refine Cl.of rfl rfl rfl (lc := [some (vR (sg 13)), none]) rfl ?_
      refine Rn.if1f 60 rfl rfl (by dsimp only [tm_c2P]; rw [ham.1]; decide) ?_
      exact Rn.ir 60 rfl rfl rfl rfl
  | succ m =>
    obtain ⟨k1, k2, k3⟩ := sp_takeBack hc hci (by omega) hx hac
    have ok' := hos m (by omega)
    generalize hw1 : tbW w m ((xx + 23) % 24) (S m).1 (S m).2.1 (S m).2.2.1 = w1 at *
    have esg : ∀ s, s ≠ 5 → w1 (sg s) = w (sg s) := fun s hs => by
      rw [← hw1]
      unfold tbW
      rw [cpW_ne sg_cit, wset_ne sg_cit, wset_ne sg_cit, wset_ne sg_cit, wset_ne (sg_ne hs), wset_ne (sg_ne hs)]
    have hM1 : Mt w1 c nr ti o sp dy wf := ⟨by rw [esg 13 (by decide)]; exact hb, hma.fr (esg 17 (by decide))⟩
    have hM2 : Mt (wset w1 (sg 13) 8 (nI m)) c nr ti o sp dy wf := ⟨by rw [wset_k (by decide)]; exact hM1.1, hM1.2.fr (wset_ne (sg_ne (by decide)))⟩
    have hM3 := hM2.opn (o' := (S m).1)
    have hM4 := hM3.spent (sp' := (S m).2.1)
    have hM5 := hM4.day (dy' := (S m).2.2.1)
    have hr := ham.2 m (by omega)
    rw [if_pos rfl] at hr
    obtain ⟨r1, r2, r3, r4⟩ := hr
    generalize hw5 : wset (wset (wset (wset w1 (sg 13) 8 (nI m)) (sg 17) 6 (nI (S m).1)) (sg 17) 7 (nI (S m).2.1)) (sg 17) 5 (nI (S m).2.2.1) = w5 at *
    have e19 : ∀ {W : Wd}, (W = wset w1 (sg 13) 8 (nI m) ∨ W = wset (wset w1 (sg 13) 8 (nI m)) (sg 17) 6 (nI (S m).1) ∨ W = wset (wset (wset w1 (sg 13) 8 (nI m)) (sg 17) 6 (nI (S m).1)) (sg 17) 7 (nI (S m).2.1) ∨ W = w5) → W (sg 19) = w (sg 19) ∧ W (sg 13) 8 = nI m := by
      intro W h
      rcases h with h | h | h | h
      · subst h
        exact ⟨by rw [wset_ne (sg_ne (by decide)), esg 19 (by decide)], wset_s⟩
      · subst h
        exact ⟨by rw [wset_ne (sg_ne (by decide)), wset_ne (sg_ne (by decide)), esg 19 (by decide)], by rw [wset_ne (sg_ne (by decide)), wset_s]⟩
      · subst h
        exact ⟨by rw [wset_ne (sg_ne (by decide)), wset_ne (sg_ne (by decide)), wset_ne (sg_ne (by decide)), esg 19 (by decide)], by rw [wset_ne (sg_ne (by decide)), wset_ne (sg_ne (by decide)), wset_s]⟩
      · subst h
        rw [← hw5]
        exact ⟨by rw [wset_ne (sg_ne (by decide)), wset_ne (sg_ne (by decide)), wset_ne (sg_ne (by decide)), wset_ne (sg_ne (by decide)), esg 19 (by decide)], by rw [wset_ne (sg_ne (by decide)), wset_ne (sg_ne (by decide)), wset_ne (sg_ne (by decide)), wset_s]⟩
    have body : ∀ r, Rn none 19 jM_undo (88, [some (vR (sg 13)), some (vI (w (sg 19) (5 * m + 3)))], [], w5) r → Cl 20 jM_undo [vR (sg 13)] w1 r := by
      intro r k
      refine Cl.of rfl rfl rfl (lc := [some (vR (sg 13)), none]) rfl ?_
      have e8 : w1 (sg 13) 8 = nI (m + 1) := by rw [esg 13 (by decide)]; exact ham.1
      refine Rn.if1t 60 rfl rfl (by dsimp only [tm_c2P]; rw [e8]; exact nI_ne0 (by omega) (by omega)) ?_
      refine Rn.at 6 (x := (20, [some (vR (sg 13)), none], [], wset w1 (sg 13) 8 (nI m))) (by rw [show nI m = w1 (sg 13) 8 - nI 1 by rw [e8, pk_sub (by omega)]; rfl]; rfl) ?_
      obtain ⟨a1, a2⟩ := e19 (Or.inl rfl)
      refine Rn.al 60 (j := 5 * m) rfl rfl rfl (by dsimp only; rw [a2, pk_mul]) (by omega) ?_
      rw [a1, r1]
      refine Rn.cv 60 rfl rfl rfl rfl rfl (m_put (k := 6) hM2.1 rfl (by decide)) (by decide) ?_
      obtain ⟨a1, a2⟩ := e19 (Or.inr (Or.inl rfl))
      refine Rn.al 60 (j := 5 * m + 1) rfl rfl rfl (by dsimp only; rw [a2, pk_mul, nI_add]) (by omega) ?_
      rw [a1, r2]
      refine Rn.cv 60 rfl rfl rfl rfl rfl (m_put (k := 7) hM3.1 rfl (by decide)) (by decide) ?_
      obtain ⟨a1, a2⟩ := e19 (Or.inr (Or.inr (Or.inl rfl)))
      refine Rn.al 60 (j := 5 * m + 2) rfl rfl rfl (by dsimp only; rw [a2, pk_mul, nI_add]) (by omega) ?_
      rw [a1, r3]
      refine Rn.cv 60 rfl rfl rfl rfl rfl (m_put (k := 5) hM4.1 rfl (by decide)) (by decide) ?_
      rw [hw5]
      obtain ⟨a1, a2⟩ := e19 (Or.inr (Or.inr (Or.inr rfl)))
      refine Rn.al 60 (j := 5 * m + 3) rfl rfl rfl (by dsimp only; rw [a2, pk_mul, nI_add]) (by omega) ?_
      rw [a1]
      exact Rn.at 1 rfl k
    obtain ⟨a19, a8⟩ := e19 (Or.inr (Or.inr (Or.inr rfl)))
    have xs : Cl 20 jX_undo [vR (sg 0)] w (some (vI (nI m)), w1) := by
      refine Cl.of rfl rfl rfl (lc := [some (vR (sg 0))]) rfl ?_
      refine Rn.cv 60 rfl rfl rfl rfl rfl k1 (by decide) ?_
      refine Rn.if1f 60 rfl rfl (by dsimp only [tm_c2P]; decide) ?_
      refine Rn.ir 60 rfl rfl rfl ?_
      rw [k2.1]
    have fin : ∀ {w6 : Wd}, Cl 20 jM_undo [vR (sg 13)] w1 (some (vI (nI m)), w6) → Mt w6 c nr ti (S m).1 (S m).2.1 (S m).2.2.1 (S m).2.2.2 → (∀ t, t ≠ sg 17 → w6 t = w5 t) → (∀ j, 49 ≤ j → w6 (sg 17) j = w5 (sg 17) j) → ∃ w1 w2 v, Cl 20 jX_undo [vR (sg 0)] w (some (vI v), w1) ∧ Cl 20 jM_undo [vR (sg 13)] w1 (some (vI v), w2) ∧ Inv w2 := by
      intro w6 hcl hM6 f1 f2
      have f5 : ∀ t, t ≠ sg 17 → t ≠ sg 13 → w6 t = w1 t := fun t h1 h2 => by
        rw [f1 t h1, ← hw5, wset_ne h1, wset_ne h1, wset_ne h1, wset_ne h2]
      refine ⟨w1, w6, nI m, xs, hcl, hi.twn ⟨hM6.1, c, nr, ti, _, _, _, _, ok', k3.fr (fun p => f5 _ cit_sg cit_sg), hM6.2, m, (xx + 23) % 24, S, by omega, Nat.mod_lt _ (by decide), k2.of (fun s s1 s2 j => by rw [f5 _ (sg_ne (by omega)) (sg_ne (by omega))]), ham.cut (by rw [f1 _ (sg_ne (by decide))]; exact a8) (by rw [f1 _ (sg_ne (by decide))]; exact a19), fun i hi => hos i (by omega)⟩ (fun n h5 h9 => ?_)⟩
      intro t j e
      by_cases h17 : t = sg 17
      · subst h17
        have hj : 49 ≤ j := by
          apply Classical.byContradiction
          intro z
          rw [own_now (by omega)] at e
          exact h5 e.symm
        rw [f2 j hj, ← hw5, wset_k (by omega), wset_k (by omega), wset_k (by omega), wset_ne (sg_ne (by decide)), esg 17 (by decide)]
      · by_cases h13 : t = sg 13
        · subst h13
          have hj : j ≠ 8 := fun z => by subst z; exact h5 e.symm
          rw [f1 _ (sg_ne (by decide)), ← hw5, wset_ne (sg_ne (by decide)), wset_ne (sg_ne (by decide)), wset_ne (sg_ne (by decide)), wset_k hj, esg 13 (by decide)]
        · rw [f5 t h17 h13, ← hw1]
          unfold tbW
          have hcit : ∀ p, t ≠ cit 0 p := fun p z => by subst z; exact h5 e.symm
          have h5' : t ≠ sg 5 := fun z => by subst z; exact h5 e.symm
          rw [cpW_ne (hcit 7), wset_ne (hcit 0), wset_ne (hcit 0), wset_ne (hcit 0), wset_ne h5', wset_ne h5']
    rcases r4 with ⟨q1, q2⟩ | ⟨q, v, q1, q2, q3, q4⟩
    · refine fin (w6 := w5) (body _ ?_) ⟨hM5.1, hM5.2.cw (fun p hp => (q2 p hp).symm)⟩ (fun _ _ => rfl) (fun _ _ => rfl)
      rw [q1]
      refine Rn.if2t 60 rfl rfl rfl ?_
      rw [← a8]
      exact Rn.ir 60 rfl rfl rfl rfl
    · have hM6 := hM5.wish hc (p := q) (v := v)
      refine fin (w6 := wset w5 (sg 17) (27 + 5 * q) (nI v)) (body _ ?_) ⟨hM6.1, hM6.2.cw (fun p hp => (q4 p hp).symm)⟩ (fun t ht => wset_ne ht) (fun j hj => wset_k (by omega))
      rw [q2]
      refine Rn.if2f 60 rfl rfl ?_ ?_
      · dsimp only [tm_c2P]
        intro z
        have z2 := congrArg Int32.toInt z
        rw [nI_toInt (by omega)] at z2
        have e : (-(nI 1000000)).toInt = -1000000 := by decide
        omega
      refine Rn.al 60 (j := 5 * m + 4) rfl rfl rfl (by dsimp only; rw [a8, pk_mul, nI_add]) (by omega) ?_
      rw [a19, q3]
      refine Rn.cv 60 rfl rfl rfl rfl rfl (m_put (k := 27 + 5 * q) hM5.1 (by dsimp only; rw [pk_mul, nI_add, nI_add, show 24 + 5 * q + 3 = 27 + 5 * q by omega]) (by omega)) (by decide) ?_
      refine Rn.ir 60 rfl rfl rfl ?_
      rw [wset_ne (show sg 13 ≠ sg 17 by decide), a8]
end
section
/-! image, restore -/
def ccW (w : Wd) (a b n : Nat) : Wd := fun t k => if t = sg 17 ∧ 49 * b ≤ k ∧ k < 49 * b + n then w (sg 17) (49 * a + (k - 49 * b)) else w t k
theorem ccW_ne {w : Wd} {a b n : Nat} {t : TA} (h : t ≠ sg 17) : ccW w a b n t = w t := funext (fun k => if_neg (fun z => h z.1))
theorem ccW_out {w : Wd} {a b n k : Nat} (h : k < 49 * b ∨ 49 * b + n ≤ k) : ccW w a b n (sg 17) k = w (sg 17) k := if_neg (fun z => by omega)
theorem ccW_in {w : Wd} {a b j : Nat} (h : j < 49) : ccW w a b 49 (sg 17) (49 * b + j) = w (sg 17) (49 * a + j) := by
  unfold ccW
  rw [if_pos ⟨rfl, by omega, by omega⟩, show 49 * b + j - 49 * b = j by omega]
theorem ccW_s {w : Wd} {a b n : Nat} : wset (ccW w a b n) (sg 17) (49 * b + n) (w (sg 17) (49 * a + n)) = ccW w a b (n + 1) := by
  funext t k
  unfold wset ccW
  by_cases h : t = sg 17
  · subst h
    rw [if_pos rfl]
    by_cases e : k = 49 * b + n
    · subst e
      rw [if_pos rfl, if_pos ⟨rfl, by omega, by omega⟩, show 49 * b + n - 49 * b = n by omega]
    · rw [if_neg e]
      by_cases e2 : 49 * b ≤ k ∧ k < 49 * b + n
      · rw [if_pos ⟨rfl, e2⟩, if_pos ⟨rfl, by omega, by omega⟩]
      · rw [if_neg (fun z => e2 z.2), if_neg (fun z => by omega)]
  · rw [if_neg h, if_neg (fun z => h z.1), if_neg (fun z => h z.1)]
theorem ccW_0 {w : Wd} {a b : Nat} : ccW w a b 0 = w := by
  funext t k
  exact if_neg (fun z => by omega)
theorem m_copyCity {w : Wd} {a b : Nat} (ha : a < 4) (hb : b < 4) (hab : a ≠ b) : Cl 1 jM_copyCity [vR (sg 13), vI (nI a), vI (nI b)] w (none, ccW w a b 49) := by
  have key : ∀ m k, k + m = 49 → Rn none 0 jM_copyCity (2, [some (vR (sg 13)), some (vI (nI a)), some (vI (nI b)), some (vI (nI k))], [], ccW w a b k) (none, ccW w a b 49) := by
    intro m
    induction m with
    | zero =>
      intro k hk
      obtain rfl : k = 49 := by omega
      refine Rn.if2t 60 rfl rfl (by dsimp only [tm_c2P]; decide) ?_
      exact Rn.vr 60 rfl rfl rfl rfl
    | succ m ih =>
      intro k hk
      have k1 := ih (k + 1) (by omega)
      refine Rn.if2f 60 rfl rfl (nI_ge (by omega) (by omega)) ?_
      refine Rn.al 60 (j := 49 * a + k) rfl rfl rfl (by dsimp only; rw [pk_mul, nI_add]) (by omega) ?_
      refine Rn.as 60 (j := 49 * b + k) rfl rfl rfl (by dsimp only; rw [pk_mul, nI_add]) (by omega) ?_
      rw [ccW_out (show 49 * a + k < 49 * b ∨ 49 * b + k ≤ 49 * a + k by omega), ccW_s]
      rw [nI_succ k] at k1
      exact Rn.at 2 rfl k1
  refine Cl.of rfl rfl rfl (lc := [some (vR (sg 13)), some (vI (nI a)), some (vI (nI b)), none]) rfl ?_
  have k0 := key 49 0 (by omega)
  rw [ccW_0] at k0
  exact Rn.at 2 rfl k0
theorem MaIs.cc {w w' : Wd} {a b : Nat} {c : Nat → Nat} {nr ti o sp dy : Nat} {wf : Nat → Nat} (hc : PlOk c) (h : MaIs w a c nr ti o sp dy wf) (e : ∀ j, j < 49 → w' (sg 17) (b + j) = w (sg 17) (a + j)) : MaIs w' b c nr ti o sp dy wf := by
  obtain ⟨h1, h2, h3, h4, h5, h6, h7, h8, h9, h10⟩ := h
  have e3 := hc.2.1
  have e4 := hc.2.2.1
  refine ⟨(e 0 (by decide)).trans h1, (e 1 (by decide)).trans h2, (e 2 (by decide)).trans h3, (e 3 (by decide)).trans h4, (e 4 (by decide)).trans h5, (e 5 (by decide)).trans h6, (e 6 (by decide)).trans h7, (e 7 (by decide)).trans h8, fun g hg => ?_, fun p hp => ?_⟩
  · obtain ⟨a1, a2⟩ := h9 g hg
    exact ⟨(e _ (by omega)).trans a1, (e _ (by omega)).trans a2⟩
  · obtain ⟨a1, a2, a3, a4, a5⟩ := h10 p hp
    exact ⟨(e _ (by omega)).trans a1, (e _ (by omega)).trans a2, (e _ (by omega)).trans a3, (e _ (by omega)).trans a4, (e _ (by omega)).trans a5⟩
theorem ik_ne {k : Nat} (hk : k < 2) : (Fin.ofNat 6 (2 + k) : Fin 6) ≠ 0 := by
  rcases (by omega : k = 0 ∨ k = 1) with rfl | rfl <;> decide
theorem own_img {k p j : Nat} (hk : k < 2) : own (cit (Fin.ofNat 6 (2 + k)) p) j = 4 := by
  rcases (by omega : k = 0 ∨ k = 1) with rfl | rfl <;> rfl
theorem Inv.img {w w' : Wd} (h : Inv w) (ht : ImgsI w') (e : ∀ n, n ≠ 4 → n ≠ 9 → Same n w w') : Inv w' := ⟨h.1.same (e 0 (by decide) (by decide)), h.2.1.same (e 1 (by decide) (by decide)), h.2.2.1.same (e 2 (by decide) (by decide)), h.2.2.2.1.same (e 3 (by decide) (by decide)), ht, h.2.2.2.2.2.same (e 5 (by decide) (by decide))⟩
theorem ImgI.of {w w' : Wd} {k : Nat} (h : ImgI w k) (e1 : ∀ p, w' (cit (Fin.ofNat 6 (2 + k)) p) = w (cit (Fin.ofNat 6 (2 + k)) p)) (e2 : w' (sg 18) k = w (sg 18) k) (e3 : ∀ j, j < 49 → w' (sg 17) (49 * (1 + k) + j) = w (sg 17) (49 * (1 + k) + j)) : ImgI w' k := by
  rcases h with ⟨h1, h2⟩ | ⟨h1, c, nr, ti, o, sp, dy, wf, h2, h3, h4, h5⟩
  · exact Or.inl ⟨by rw [e1]; exact h1, e2.trans h2⟩
  · exact Or.inr ⟨e2.trans h1, c, nr, ti, o, sp, dy, wf, h2, h3, h4.fr e1, h5.cc h2.1 e3⟩
theorem op_image {x : Int32} : Op jX_image jM_image [vI x] := by
  intro w hi
  obtain ⟨hb, c, nr, ti, o, sp, dy, wf, hok, hci, hma, hact⟩ := id hi.2.2.2.2.2
  have hM : Mt w c nr ti o sp dy wf := ⟨hb, hma⟩
  have hc := hok.1
  have hc0 := hc.1
  rcases pk_or (x := x) (n := 2) (by omega) with h1 | ⟨k, hk, rfl⟩
  · refine op_same hi (v := -(nI 1000001)) ?_ ?_
    · refine Cl.of rfl rfl rfl (lc := [some (vR (sg 0)), some (vI x)]) rfl ?_
      refine Rn.cs 60 rfl rfl rfl rfl (x_no (by decide) h1) (by decide) ?_
      refine Rn.if1f 60 rfl rfl (by dsimp only [tm_c2P]; decide) ?_
      exact Rn.ir 60 rfl rfl rfl rfl
    · refine Cl.of rfl rfl rfl (lc := [some (vR (sg 13)), some (vI x)]) rfl ?_
      refine Rn.cs 60 rfl rfl rfl rfl (m_no (n := 1) (by decide) h1) (by decide) ?_
      refine Rn.if1f 60 rfl rfl (by dsimp only [tm_c2P]; decide) ?_
      exact Rn.ir 60 rfl rfl rfl rfl
  have cx : ∀ {r0 : Rs}, Rn none 19 jX_image (18, [some (vR (sg 0)), some (vI (nI k))], [vI (bI (decide (0 < c 0)))], w) r0 → Cl 20 jX_image [vR (sg 0), vI (nI k)] w r0 := by
    intro r0 kk
    refine Cl.of rfl rfl rfl (lc := [some (vR (sg 0)), some (vI (nI k))]) rfl ?_
    refine Rn.cs 60 rfl rfl rfl rfl (x_yes (by decide) hk) (by decide) ?_
    refine Rn.if1t 60 rfl rfl (by dsimp only [tm_c2P]; decide) ?_
    exact Rn.cv 60 rfl rfl rfl rfl rfl (x_there hc hci) (by decide) kk
  have cm : ∀ {w : Wd} {r0 : Rs}, Mt w c nr ti o sp dy wf → Rn none 19 jM_image (16, [some (vR (sg 13)), some (vI (nI k))], [vI (bI (decide (0 < c 0)))], w) r0 → Cl 20 jM_image [vR (sg 13), vI (nI k)] w r0 := by
    intro w r0 hM kk
    refine Cl.of rfl rfl rfl (lc := [some (vR (sg 13)), some (vI (nI k))]) rfl ?_
    refine Rn.cs 60 rfl rfl rfl rfl (m_yes (n := 1) (by decide) (by omega)) (by decide) ?_
    refine Rn.if1t 60 rfl rfl (by dsimp only [tm_c2P]; decide) ?_
    exact Rn.cv 60 rfl rfl rfl rfl rfl (m_hasCity hc hM.pl) (by decide) kk
  by_cases h0 : 0 < c 0
  · rw [decide_eq_true h0] at cx cm
    obtain ⟨w1, f1, f2, f3⟩ := sp_become (k := Fin.ofNat 6 (2 + k)) (k' := 0) (ik_ne hk) hc hci.1 hci.2.1
    have esg : ∀ s, w1 (sg s) = w (sg s) := fun s => f2 _ (fun p => sg_cit)
    have hM1 : Mt w1 c nr ti o sp dy wf := ⟨by rw [esg]; exact hb, hma.fr (esg 17)⟩
    have cc := m_copyCity (w := w1) (a := 0) (b := 1 + k) (by decide) (by omega) (by omega)
    refine ⟨w1, wset (ccW w1 0 (1 + k) 49) (sg 18) k (nI 1), nI 1, cx ?_, cm hM1 ?_, ?_⟩
    · refine Rn.if1t 60 rfl rfl (by dsimp only [tm_c2P]; decide) ?_
      refine Rn.img 60 rfl rfl rfl hk ?_
      refine Rn.cv 60 rfl rfl rfl rfl rfl f1 (by decide) ?_
      exact Rn.ir 60 rfl rfl rfl rfl
    · refine Rn.if1t 60 rfl rfl (by dsimp only [tm_c2P]; decide) ?_
      rw [← nI_add 1 k] at cc
      refine Rn.cv 60 rfl rfl rfl rfl rfl cc (by decide) ?_
      refine Rn.bas 60 (y := 0) rfl rfl rfl rfl (by omega) ?_
      exact Rn.ir 60 rfl rfl rfl rfl
    · refine hi.img (fun q hq => ?_) (fun n h4 h9 => ?_)
      · by_cases e : q = k
        · subst e
          refine Or.inr ⟨wset_s, c, nr, ti, o, sp, dy, wf, hok, h0, f3.fr (fun p => by rw [wset_ne cit_sg, ccW_ne cit_sg]), hM1.2.cc hc (fun j hj => ?_)⟩
          rw [wset_ne (sg_ne (by decide)), ccW_in hj]
        · refine (hi.2.2.2.2.1 q hq).of (fun p => ?_) ?_ (fun j hj => ?_)
          · rw [wset_ne cit_sg, ccW_ne cit_sg]
            refine f2 _ (fun p' z => e ?_)
            have z2 : (Fin.ofNat 6 (2 + q) : Fin 6) = Fin.ofNat 6 (2 + k) := by
              unfold cit at z
              injection z with z
              exact congrArg Prod.fst z
            have z3 := congrArg Fin.val z2
            simp [Fin.ofNat] at z3
            omega
          · rw [wset_k e, ccW_ne (sg_ne (by decide)), esg]
          · rw [wset_ne (sg_ne (by decide)), ccW_out (by omega), esg]
      · refine Same.tr (w1 := ccW w1 0 (1 + k) 49) (Same.tr (w1 := w1) (Same.fr f2 (fun p j z => h4 ((own_img hk).symm.trans z).symm)) (fun t j e => ?_)) (Same.set (fun z => h4 z.symm))
        by_cases h17 : t = sg 17
        · subst h17
          refine ccW_out ?_
          apply Classical.byContradiction
          intro z
          have e4 : own (sg 17) j = 4 := by
            show (if j < 49 then 5 else if j < 147 then 4 else 9) = 4
            rw [if_neg (by omega), if_pos (by omega)]
          exact h4 (e4.symm.trans e).symm
        · rw [ccW_ne h17]
  · rw [decide_eq_false h0] at cx cm
    refine op_same hi (v := -(nI 1000002)) (cx ?_) (cm hM ?_)
    · refine Rn.if1f 60 rfl rfl (by dsimp only [tm_c2P]; decide) ?_
      exact Rn.ir 60 rfl rfl rfl rfl
    · refine Rn.if1f 60 rfl rfl (by dsimp only [tm_c2P]; decide) ?_
      exact Rn.ir 60 rfl rfl rfl rfl
theorem sp_forgetAll {w : Wd} : Cl 1 jA_forgetAll [vR (sg 5)] w (none, wset (wset w (sg 5) 0 (nI 0)) (sg 5) 1 (nI 0)) := by
  refine Cl.of rfl rfl rfl (lc := [some (vR (sg 5))]) rfl ?_
  exact Rn.vr 60 rfl rfl rfl rfl
theorem op_restore {x : Int32} : Op jX_restore jM_restore [vI x] := by
  intro w hi
  obtain ⟨hb, c, nr, ti, o, sp, dy, wf, hok, hci, hma, hact⟩ := id hi.2.2.2.2.2
  rcases pk_or (x := x) (n := 2) (by omega) with h1 | ⟨k, hk, rfl⟩
  · refine op_same hi (v := -(nI 1000001)) ?_ ?_
    · refine Cl.of rfl rfl rfl (lc := [some (vR (sg 0)), some (vI x)]) rfl ?_
      refine Rn.cs 60 rfl rfl rfl rfl (x_no (by decide) h1) (by decide) ?_
      refine Rn.if1f 60 rfl rfl (by dsimp only [tm_c2P]; decide) ?_
      exact Rn.ir 60 rfl rfl rfl rfl
    · refine Cl.of rfl rfl rfl (lc := [some (vR (sg 13)), some (vI x)]) rfl ?_
      refine Rn.cs 60 rfl rfl rfl rfl (m_no (n := 1) (by decide) h1) (by decide) ?_
      refine Rn.if1f 60 rfl rfl (by dsimp only [tm_c2P]; decide) ?_
      exact Rn.ir 60 rfl rfl rfl rfl
  have cx : ∀ {a : Nat} {r0 : Rs}, w (cit (Fin.ofNat 6 (2 + k)) 0) 0 = nI a → a < 2 ^ 31 → Rn none 19 jX_restore (20, [some (vR (sg 0)), some (vI (nI k))], [vI (bI (decide (0 < a)))], w) r0 → Cl 20 jX_restore [vR (sg 0), vI (nI k)] w r0 := by
    intro a r0 ha ha2 kk
    refine Cl.of rfl rfl rfl (lc := [some (vR (sg 0)), some (vI (nI k))]) rfl ?_
    refine Rn.cs 60 rfl rfl rfl rfl (x_yes (by decide) hk) (by decide) ?_
    refine Rn.if1t 60 rfl rfl (by dsimp only [tm_c2P]; decide) ?_
    refine Rn.img 60 rfl rfl rfl hk ?_
    exact Rn.cv 60 rfl rfl rfl rfl rfl (sp_isThere ha ha2) (by decide) kk
  have cm : ∀ {w : Wd} {r0 : Rs}, Rn none 19 jM_restore (18, [some (vR (sg 13)), some (vI (nI k))], [vI (w (sg 18) k)], w) r0 → Cl 20 jM_restore [vR (sg 13), vI (nI k)] w r0 := by
    intro w r0 kk
    refine Cl.of rfl rfl rfl (lc := [some (vR (sg 13)), some (vI (nI k))]) rfl ?_
    refine Rn.cs 60 rfl rfl rfl rfl (m_yes (n := 1) (by decide) (by omega)) (by decide) ?_
    refine Rn.if1t 60 rfl rfl (by dsimp only [tm_c2P]; decide) ?_
    exact Rn.bal 60 (y := 0) rfl rfl rfl rfl (by omega) kk
  rcases hi.2.2.2.2.1 k hk with ⟨g1, g2⟩ | ⟨g1, c', nr', ti', o', sp', dy', wf', g2, g3, g4, g5⟩
  · refine op_same hi (v := -(nI 1000002)) (cx g1 (by decide) ?_) (cm ?_)
    · refine Rn.if1f 60 rfl rfl (by dsimp only [tm_c2P]; decide) ?_
      exact Rn.ir 60 rfl rfl rfl rfl
    · rw [g2]
      refine Rn.if1f 60 rfl rfl (by dsimp only [tm_c2P]; decide) ?_
      exact Rn.ir 60 rfl rfl rfl rfl
  have hc' := g2.1
  have hc0' := hc'.1
  obtain ⟨w1, f1, f2, f3⟩ := sp_become (k := 0) (k' := Fin.ofNat 6 (2 + k)) (fun z => ik_ne hk z.symm) hc' g4.1 g4.2.1
  have esg : ∀ s, w1 (sg s) = w (sg s) := fun s => f2 _ (fun p => sg_cit)
  generalize hw2 : wset (wset w1 (sg 5) 0 (nI 0)) (sg 5) 1 (nI 0) = w2
  have e2 : ∀ t, t ≠ sg 5 → w2 t = w1 t := fun t ht => by rw [← hw2, wset_ne ht, wset_ne ht]
  have cc := m_copyCity (w := w2) (a := 1 + k) (b := 0) (by omega) (by decide) (by omega)
  have e3 : ∀ t, t ≠ sg 17 → t ≠ sg 13 → wset (ccW w2 (1 + k) 0 49) (sg 13) 8 (nI 0) t = w2 t := fun t h1 h2 => by rw [wset_ne h2, ccW_ne h1]
  refine ⟨w2, wset (ccW w2 (1 + k) 0 49) (sg 13) 8 (nI 0), nI 1, cx g4.1.1 (by omega) ?_, cm ?_, hi.twn ⟨?_, c', nr', ti', o', sp', dy', wf', g2, ?_, ?_, 0, 0, fun _ => (0, 0, 0, fun _ => 0), by decide, by decide, ⟨?_, ?_, fun i hi => absurd hi (by omega)⟩, ⟨wset_s, fun i hi => absurd hi (by omega)⟩, fun i hi => absurd hi (by omega)⟩ (fun n h5 h9 => ?_)⟩
  · rw [decide_eq_true g3]
    refine Rn.if1t 60 rfl rfl (by dsimp only [tm_c2P]; decide) ?_
    refine Rn.img 60 rfl rfl rfl hk ?_
    refine Rn.cv 60 rfl rfl rfl rfl rfl f1 (by decide) ?_
    refine Rn.cv 60 rfl rfl rfl rfl rfl sp_forgetAll (by decide) ?_
    rw [hw2]
    exact Rn.ir 60 rfl rfl rfl rfl
  · rw [e2 _ (sg_ne (by decide)), esg, g1]
    refine Rn.if1t 60 rfl rfl (by dsimp only [tm_c2P]; decide) ?_
    rw [← nI_add 1 k] at cc
    refine Rn.cv 60 rfl rfl rfl rfl rfl cc (by decide) ?_
    exact Rn.ir 60 rfl rfl rfl rfl
  · rw [wset_k (by decide), ccW_ne (sg_ne (by decide)), e2 _ (sg_ne (by decide)), esg]
    exact hb
  · exact f3.fr (fun p => by rw [e3 _ cit_sg cit_sg, e2 _ cit_sg])
  · refine g5.cc hc' (fun j hj => ?_)
    have ci := ccW_in (w := w2) (a := 1 + k) (b := 0) hj
    rw [Nat.mul_zero] at ci
    rw [wset_ne (sg_ne (by decide)), ci, e2 _ (sg_ne (by decide)), esg]
  · rw [e3 _ (sg_ne (by decide)) (sg_ne (by decide)), ← hw2, wset_k (by decide), wset_s]
  · rw [e3 _ (sg_ne (by decide)) (sg_ne (by decide)), ← hw2, wset_s]
  · refine Same.tr (w1 := ccW w2 (1 + k) 0 49) (Same.tr (w1 := w2) (Same.tr (w1 := w1) (Same.fr f2 (fun p j z => h5 z.symm)) (fun t j e => ?_)) (fun t j e => ?_)) (Same.set (fun z => h5 z.symm))
    · rw [e2 t (fun z => by subst z; exact h5 e.symm)]
    · by_cases h17 : t = sg 17
      · subst h17
        refine ccW_out ?_
        apply Classical.byContradiction
        intro z
        rw [own_now (by omega)] at e
        exact h5 e.symm
      · rw [ccW_ne h17]
end
section
/-! ask: the bodies begun, left in the trace -/
def psh (ls : List Nat) (b : Nat) : List Nat := if ls.length < 16 then ls ++ [b] else ls
def TrX (w : Wd) (ls : List Nat) : Prop := ls.length ≤ 16 ∧ w (sg 11) 1 = nI ls.length ∧ ∀ i, i < ls.length → w (sg 12) i = nI (ls.getD i 0)
def TrM (w : Wd) (ls : List Nat) : Prop := ls.length ≤ 16 ∧ w (sg 13) 24 = nI ls.length ∧ ∀ i, i < ls.length → w (sg 22) i = nI (ls.getD i 0)
def TFr (w w' : Wd) : Prop := ∀ t, t ≠ sg 11 → t ≠ sg 12 → w' t = w t
def UFr (w w' : Wd) : Prop := (∀ t, t ≠ sg 13 → t ≠ sg 22 → w' t = w t) ∧ ∀ j, j ≠ 24 → w' (sg 13) j = w (sg 13) j
theorem TFr.tr {w w1 w2 : Wd} (h1 : TFr w w1) (h2 : TFr w1 w2) : TFr w w2 := fun t a b => (h2 t a b).trans (h1 t a b)
theorem UFr.tr {w w1 w2 : Wd} (h1 : UFr w w1) (h2 : UFr w1 w2) : UFr w w2 := ⟨fun t a b => (h2.1 t a b).trans (h1.1 t a b), fun j a => (h2.2 j a).trans (h1.2 j a)⟩
theorem Mt.ufr {w w' : Wd} {c : Nat → Nat} {nr ti o sp dy : Nat} {wf : Nat → Nat} (h : Mt w c nr ti o sp dy wf) (f : UFr w w') : Mt w' c nr ti o sp dy wf := ⟨(f.2 5 (by decide)).trans h.1, h.2.fr (f.1 _ (sg_ne (by decide)) (sg_ne (by decide)))⟩
theorem getD_app {ls : List Nat} {b i : Nat} (h : i < ls.length + 1) : (ls ++ [b]).getD i 0 = if i = ls.length then b else ls.getD i 0 := by
  by_cases e : i = ls.length
  · subst e
    simp [List.getD]
  · rw [if_neg e]
    simp [List.getD, List.getElem?_append, show i < ls.length by omega]
theorem x_leave {w : Wd} {ls : List Nat} {b : Nat} (h : TrX w ls) : ∃ w', Cl 1 jB_leave [vR (sg 11), vI (nI b)] w (none, w') ∧ TFr w w' ∧ TrX w' (psh ls b) := by
  obtain ⟨h1, h2, h3⟩ := h
  unfold psh
  by_cases e : ls.length < 16
  · rw [if_pos e]
    refine ⟨wset (wset w (sg 12) ls.length (nI b)) (sg 11) 1 (nI (ls.length + 1)), ?_, fun t a b => by rw [wset_ne a, wset_ne b], ?_⟩
    · refine Cl.of rfl rfl rfl (lc := [some (vR (sg 11)), some (vI (nI b))]) rfl ?_
      refine Rn.if2f 60 rfl rfl (by dsimp only [tm_c2P]; rw [h2]; exact nI_ge e (by decide)) ?_
      refine Rn.as 60 rfl rfl rfl h2 e ?_
      refine Rn.vr 60 rfl rfl rfl ?_
      rw [wset_ne (sg_ne (by decide)), h2]
      dsimp only
      rw [nI_add]
    · refine ⟨by rw [List.length_append]; exact e, ?_, fun i hi => ?_⟩
      · rw [wset_s, List.length_append]
        rfl
      · rw [List.length_append] at hi
        have hi : i < ls.length + 1 := hi
        rw [wset_ne (sg_ne (by decide)), getD_app hi]
        by_cases ei : i = ls.length
        · subst ei
          rw [wset_s, if_pos rfl]
        · rw [wset_k ei, if_neg ei]
          exact h3 i (by omega)
  · rw [if_neg e]
    refine ⟨w, ?_, fun _ _ _ => rfl, h1, h2, h3⟩
    refine Cl.of rfl rfl rfl (lc := [some (vR (sg 11)), some (vI (nI b))]) rfl ?_
    refine Rn.if2t 60 rfl rfl (by dsimp only [tm_c2P]; rw [h2]; exact nI_le (by omega) (by omega)) ?_
    exact Rn.vr 60 rfl rfl rfl rfl
theorem m_leaves {w : Wd} {ls : List Nat} {b : Nat} (h : TrM w ls) : ∃ w', Cl 1 jM_leaves [vR (sg 13), vI (nI b)] w (none, w') ∧ UFr w w' ∧ TrM w' (psh ls b) := by
  obtain ⟨h1, h2, h3⟩ := h
  unfold psh
  by_cases e : ls.length < 16
  · rw [if_pos e]
    refine ⟨wset (wset w (sg 22) ls.length (nI b)) (sg 13) 24 (nI (ls.length + 1)), ?_, ⟨fun t a b => by rw [wset_ne a, wset_ne b], fun j hj => by rw [wset_k hj, wset_ne (sg_ne (by decide))]⟩, ?_⟩
    · refine Cl.of rfl rfl rfl (lc := [some (vR (sg 13)), some (vI (nI b))]) rfl ?_
      refine Rn.if2f 60 rfl rfl (by dsimp only [tm_c2P]; rw [h2]; exact nI_ge e (by decide)) ?_
      refine Rn.as 60 rfl rfl rfl h2 e ?_
      refine Rn.vr 60 rfl rfl rfl ?_
      rw [wset_ne (sg_ne (by decide)), h2]
      dsimp only
      rw [nI_add]
    · refine ⟨by rw [List.length_append]; exact e, ?_, fun i hi => ?_⟩
      · rw [wset_s, List.length_append]
        rfl
      · rw [List.length_append] at hi
        have hi : i < ls.length + 1 := hi
        rw [wset_ne (sg_ne (by decide)), getD_app hi]
        by_cases ei : i = ls.length
        · subst ei
          rw [wset_s, if_pos rfl]
        · rw [wset_k ei, if_neg ei]
          exact h3 i (by omega)
  · rw [if_neg e]
    refine ⟨w, ?_, ⟨fun _ _ _ => rfl, fun _ _ => rfl⟩, h1, h2, h3⟩
    refine Cl.of rfl rfl rfl (lc := [some (vR (sg 13)), some (vI (nI b))]) rfl ?_
    refine Rn.if2t 60 rfl rfl (by dsimp only [tm_c2P]; rw [h2]; exact nI_le (by omega) (by omega)) ?_
    exact Rn.vr 60 rfl rfl rfl rfl
/-- a body of the class: what it answers and which bodies it leaves, from any place of the trace -/
def BX (c : Nat → Nat) (o p b D h : Nat) (V : Int32) (L : List Nat) : Prop := ∀ w ls dp, PlIs w 0 c → w (cit 0 0) 12 = nI o → TrX w ls → dp + h ≤ 12 → ∃ w', Cl D jB_begin [vR (sg 11), vR (cit 0 0), vI (nI p), vI (nI b), vI (nI dp)] w (some (vI V), w') ∧ TFr w w' ∧ TrX w' (L.foldl psh ls)
def MX (c : Nat → Nat) (o p J D : Nat) (V : Int32) (L : List Nat) : Prop := ∀ w ls nr ti sp dy wf, Mt w c nr ti o sp dy wf → TrM w ls → ∃ w', Cl D J [vR (sg 13), vI (nI p)] w (some (vI V), w') ∧ UFr w w' ∧ TrM w' (L.foldl psh ls)
theorem bx_head {c : Nat → Nat} {p b d dp : Nat} {w : Wd} {ls : List Nat} (hc : PlOk c) (hp : p < c 4) (hd : 1 ≤ d) (h12 : dp ≤ 12) (hpl : PlIs w 0 c) (ht : TrX w ls) : ∃ w1, TFr w w1 ∧ TrX w1 (psh ls b) ∧ ∀ r, Rn none d jB_begin (28, [some (vR (sg 11)), some (vR (cit 0 0)), some (vI (nI p)), some (vI (nI b)), some (vI (nI dp)), some (vI (nI (dp + 1))), some (vI (nI (so c p)))], [], w1) r → Cl (d + 1) jB_begin [vR (sg 11), vR (cit 0 0), vI (nI p), vI (nI b), vI (nI dp)] w r := by
  have hc4 := hc.2.2.1
  obtain ⟨w1, f1, f2, f3⟩ := x_leave (b := b) ht
  refine ⟨w1, f2, f3, fun r k => ?_⟩
  refine Cl.of rfl rfl rfl (lc := [some (vR (sg 11)), some (vR (cit 0 0)), some (vI (nI p)), some (vI (nI b)), some (vI (nI dp)), none, none]) rfl ?_
  refine Rn.if2t 60 rfl rfl (nI_le h12 (by decide)) ?_
  refine Rn.cv 60 rfl rfl rfl rfl rfl f1 hd ?_
  refine Rn.al 60 rfl rfl rfl rfl (by omega) ?_
  rw [f2 _ cit_sg cit_sg, (hpl.2.2.2.2 p hp).1]
  rw [← nI_add dp 1] at k
  exact Rn.at 1 rfl k
theorem PlIs.tf {w w' : Wd} {c : Nat → Nat} (h : PlIs w 0 c) (f : TFr w w') : PlIs w' 0 c := h.of (by rw [f _ cit_sg cit_sg]) (by rw [f _ cit_sg cit_sg]) (by rw [f _ cit_sg cit_sg]) (fun p _ _ => f _ cit_sg cit_sg)
theorem op12 {w w' : Wd} {o : Nat} (h : w (cit 0 0) 12 = nI o) (f : TFr w w') : w' (cit 0 0) 12 = nI o := by rw [f _ cit_sg cit_sg]; exact h
theorem bx10 {c : Nat → Nat} {o p : Nat} (hc : PlOk c) (hp : p < c 4) : BX c o p 10 2 0 (nI (we c p)) [10] := by
  intro w ls dp hpl ho ht h12
  have hc4 := hc.2.2.1
  obtain ⟨w1, f1, f2, f3⟩ := bx_head (b := 10) hc hp (Nat.le_refl 1) (show dp ≤ 12 by omega) hpl ht
  refine ⟨w1, f3 _ ?_, f1, f2⟩
  refine Rn.tsw 60 (t := 104) rfl rfl rfl ?_
  refine Rn.al 60 rfl rfl rfl rfl (by omega) ?_
  rw [((hpl.tf f1).2.2.2.2 p hp).2.2.2]
  exact Rn.ir 60 rfl rfl rfl rfl
theorem bx20 {c : Nat → Nat} {o p : Nat} (hc : PlOk c) (hp : p < c 4) : BX c o p 20 2 0 (nI p) [20] := by
  intro w ls dp hpl ho ht h12
  obtain ⟨w1, f1, f2, f3⟩ := bx_head (b := 20) hc hp (Nat.le_refl 1) (show dp ≤ 12 by omega) hpl ht
  refine ⟨w1, f3 _ ?_, f1, f2⟩
  refine Rn.tsw 60 (t := 175) rfl rfl rfl ?_
  exact Rn.ir 60 rfl rfl rfl rfl
theorem bx13 {c : Nat → Nat} {o p : Nat} (hc : PlOk c) (hp : p < c 4) : BX c o p 13 3 1 (nI (we c p) - nI 100) [13, 10] := by
  intro w ls dp hpl ho ht h12
  obtain ⟨w1, f1, f2, f3⟩ := bx_head (b := 13) (d := 2) hc hp (by decide) (show dp ≤ 12 by omega) hpl ht
  obtain ⟨w2, g1, g2, g3⟩ := bx10 (o := o) hc hp w1 _ (dp + 1) (hpl.tf f1) (op12 ho f1) f2 (by omega)
  refine ⟨w2, f3 _ ?_, f1.tr g2, g3⟩
  refine Rn.tsw 60 (t := 148) rfl rfl rfl ?_
  refine Rn.cs 60 rfl rfl rfl rfl g1 (by decide) ?_
  exact Rn.ir 60 rfl rfl rfl rfl
theorem bx14 {c : Nat → Nat} {o p : Nat} (hc : PlOk c) (hp : p < c 4) : BX c o p 14 4 2 (nI 2 * (nI (we c p) - nI 100)) [14, 13, 10] := by
  intro w ls dp hpl ho ht h12
  obtain ⟨w1, f1, f2, f3⟩ := bx_head (b := 14) (d := 3) hc hp (by decide) (show dp ≤ 12 by omega) hpl ht
  obtain ⟨w2, g1, g2, g3⟩ := bx13 (o := o) hc hp w1 _ (dp + 1) (hpl.tf f1) (op12 ho f1) f2 (by omega)
  refine ⟨w2, f3 _ ?_, f1.tr g2, g3⟩
  refine Rn.tsw 60 (t := 162) rfl rfl rfl ?_
  refine Rn.cs 60 rfl rfl rfl rfl g1 (by decide) ?_
  exact Rn.ir 60 rfl rfl rfl rfl
def v21 (c : Nat → Nat) (o p : Nat) : Int32 := nI p + nI (cnt (rc c o (ho c p)))
theorem bx21 {c : Nat → Nat} {o p : Nat} (hc : PlOk c) (hp : p < c 4) (h8 : o < 256) : BX c o p 21 3 1 (v21 c o p) [21, 20] := by
  intro w ls dp hpl ho ht h12
  have hc4 := hc.2.2.1
  obtain ⟨_, q1, _, _⟩ := hc.2.2.2.2 p hp
  obtain ⟨w1, f1, f2, f3⟩ := bx_head (b := 21) (d := 2) hc hp (by decide) (show dp ≤ 12 by omega) hpl ht
  obtain ⟨w2, g1, g2, g3⟩ := bx20 (o := o) hc hp w1 _ (dp + 1) (hpl.tf f1) (op12 ho f1) f2 (by omega)
  refine ⟨w2, f3 _ ?_, f1.tr g2, g3⟩
  have hpl2 := (hpl.tf f1).tf g2
  refine Rn.tsw 60 (t := 177) rfl rfl rfl ?_
  refine Rn.cs 60 rfl rfl rfl rfl g1 (by decide) ?_
  refine Rn.al 60 rfl rfl rfl rfl (by omega) ?_
  rw [(hpl2.2.2.2.2 p hp).2.1]
  refine Rn.cv 60 rfl rfl rfl rfl rfl (sp_reachedFrom hc hpl2 (op12 (op12 ho f1) g2) h8 q1) (by decide) ?_
  refine Rn.cs 60 rfl rfl rfl rfl (sp_bitCount (by have := rc_lt hc o q1; omega)) (by decide) ?_
  exact Rn.ir 60 rfl rfl rfl rfl
theorem bx22 {c : Nat → Nat} {o p : Nat} (hc : PlOk c) (hp : p < c 4) (h8 : o < 256) : BX c o p 22 4 2 (v21 c o p - nI 1000) [22, 21, 20] := by
  intro w ls dp hpl ho ht h12
  obtain ⟨w1, f1, f2, f3⟩ := bx_head (b := 22) (d := 3) hc hp (by decide) (show dp ≤ 12 by omega) hpl ht
  obtain ⟨w2, g1, g2, g3⟩ := bx21 (o := o) hc hp h8 w1 _ (dp + 1) (hpl.tf f1) (op12 ho f1) f2 (by omega)
  refine ⟨w2, f3 _ ?_, f1.tr g2, g3⟩
  refine Rn.tsw 60 (t := 202) rfl rfl rfl ?_
  refine Rn.cs 60 rfl rfl rfl rfl g1 (by decide) ?_
  exact Rn.ir 60 rfl rfl rfl rfl
theorem bx24 {c : Nat → Nat} {o p : Nat} (hc : PlOk c) (hp : p < c 4) (h8 : o < 256) : BX c o p 24 4 2 (nI 2 * v21 c o p) [24, 21, 20] := by
  intro w ls dp hpl ho ht h12
  obtain ⟨w1, f1, f2, f3⟩ := bx_head (b := 24) (d := 3) hc hp (by decide) (show dp ≤ 12 by omega) hpl ht
  obtain ⟨w2, g1, g2, g3⟩ := bx21 (o := o) hc hp h8 w1 _ (dp + 1) (hpl.tf f1) (op12 ho f1) f2 (by omega)
  refine ⟨w2, f3 _ ?_, f1.tr g2, g3⟩
  refine Rn.tsw 60 (t := 242) rfl rfl rfl ?_
  refine Rn.cs 60 rfl rfl rfl rfl g1 (by decide) ?_
  exact Rn.ir 60 rfl rfl rfl rfl
end
section
/-! ask: bodies by sort; the reference's -/
def szB (s : Nat) : Nat := if s = 1 ∨ s = 3 then 11 else if s = 2 then 12 else if s = 4 then 13 else 14
def mkB (s : Nat) : Nat := if s = 1 then 21 else if s = 2 then 24 else if s = 3 then 22 else 23
theorem x_sizeBody {w : Wd} {s : Nat} (h1 : 1 ≤ s) (h5 : s ≤ 5) : Cl 1 jB_sizeBody [vI (nI s)] w (some (vI (nI (szB s))), w) := by
  refine Cl.of rfl rfl rfl (lc := [some (vI (nI s))]) rfl ?_
  rcases (by omega : s = 1 ∨ s = 2 ∨ s = 3 ∨ s = 4 ∨ s = 5) with rfl | rfl | rfl | rfl | rfl
  · exact Rn.tsw 60 (t := 36) rfl rfl rfl (Rn.ir 60 rfl rfl rfl rfl)
  · exact Rn.tsw 60 (t := 39) rfl rfl rfl (Rn.ir 60 rfl rfl rfl rfl)
  · exact Rn.tsw 60 (t := 36) rfl rfl rfl (Rn.ir 60 rfl rfl rfl rfl)
  · exact Rn.tsw 60 (t := 42) rfl rfl rfl (Rn.ir 60 rfl rfl rfl rfl)
  · exact Rn.tsw 60 (t := 45) rfl rfl rfl (Rn.ir 60 rfl rfl rfl rfl)
theorem x_markBody {w : Wd} {s : Nat} (h1 : 1 ≤ s) (h5 : s ≤ 5) : Cl 1 jB_markBody [vI (nI s)] w (some (vI (nI (mkB s))), w) := by
  refine Cl.of rfl rfl rfl (lc := [some (vI (nI s))]) rfl ?_
  rcases (by omega : s = 1 ∨ s = 2 ∨ s = 3 ∨ s = 4 ∨ s = 5) with rfl | rfl | rfl | rfl | rfl
  · exact Rn.tsw 60 (t := 36) rfl rfl rfl (Rn.ir 60 rfl rfl rfl rfl)
  · exact Rn.tsw 60 (t := 45) rfl rfl rfl (Rn.ir 60 rfl rfl rfl rfl)
  · exact Rn.tsw 60 (t := 39) rfl rfl rfl (Rn.ir 60 rfl rfl rfl rfl)
  · exact Rn.tsw 60 (t := 42) rfl rfl rfl (Rn.ir 60 rfl rfl rfl rfl)
  · exact Rn.tsw 60 (t := 42) rfl rfl rfl (Rn.ir 60 rfl rfl rfl rfl)
theorem BX.up {c : Nat → Nat} {o p b D D' h h' : Nat} {V : Int32} {L : List Nat} (H : BX c o p b D h V L) (hD : D ≤ D') (hh : h ≤ h') : BX c o p b D' h' V L := by
  intro w ls dp h1 h2 h3 h4
  obtain ⟨w', a1, a2⟩ := H w ls dp h1 h2 h3 (by omega)
  exact ⟨w', a1.up hD, a2⟩
/-- the mark of one who vetoes (4) or a stranger (5) -/
theorem bx23 {c : Nat → Nat} {o p b : Nat} {V : Int32} {L : List Nat} (hc : PlOk c) (hp : p < c 4) (h1 : 1 ≤ so c p) (hb : szB (so c p) = b) (hB : BX c o p b 4 2 V L) : BX c o p 23 5 3 (nI p - V) (23 :: 20 :: L) := by
  intro w ls dp hpl ho ht h12
  have s5 := (hc.2.2.2.2 p hp).1
  obtain ⟨w1, f1, f2, f3⟩ := bx_head (b := 23) (d := 4) hc hp (by decide) (show dp ≤ 12 by omega) hpl ht
  obtain ⟨w2, g1, g2, g3⟩ := bx20 (o := o) hc hp w1 _ (dp + 1) (hpl.tf f1) (op12 ho f1) f2 (by omega)
  obtain ⟨w3, i1, i2, i3⟩ := hB w2 _ (dp + 1) ((hpl.tf f1).tf g2) (op12 (op12 ho f1) g2) g3 (by omega)
  refine ⟨w3, f3 _ ?_, (f1.tr g2).tr i2, i3⟩
  refine Rn.tsw 60 (t := 217) rfl rfl rfl ?_
  refine Rn.cs 60 rfl rfl rfl rfl g1 (by decide) ?_
  have sb := x_sizeBody (w := w2) h1 s5
  rw [hb] at sb
  refine Rn.cs 60 rfl rfl rfl rfl sb (by decide) ?_
  refine Rn.cs 60 rfl rfl rfl rfl i1 (by decide) ?_
  exact Rn.ir 60 rfl rfl rfl rfl
theorem bx11 {c : Nat → Nat} {o p b : Nat} {V : Int32} {L : List Nat} (hc : PlOk c) (hp : p < c 4) (h1 : 1 ≤ so c p) (hb : mkB (so c p) = b) (hB : BX c o p b 5 3 V L) : BX c o p 11 6 4 (nI (we c p) + V) (11 :: 10 :: L) := by
  intro w ls dp hpl ho ht h12
  have s5 := (hc.2.2.2.2 p hp).1
  obtain ⟨w1, f1, f2, f3⟩ := bx_head (b := 11) (d := 5) hc hp (by decide) (show dp ≤ 12 by omega) hpl ht
  obtain ⟨w2, g1, g2, g3⟩ := bx10 (o := o) hc hp w1 _ (dp + 1) (hpl.tf f1) (op12 ho f1) f2 (by omega)
  obtain ⟨w3, i1, i2, i3⟩ := hB w2 _ (dp + 1) ((hpl.tf f1).tf g2) (op12 (op12 ho f1) g2) g3 (by omega)
  refine ⟨w3, f3 _ ?_, (f1.tr g2).tr i2, i3⟩
  refine Rn.tsw 60 (t := 111) rfl rfl rfl ?_
  refine Rn.cs 60 rfl rfl rfl rfl g1 (by decide) ?_
  have sb := x_markBody (w := w2) h1 s5
  rw [hb] at sb
  refine Rn.cs 60 rfl rfl rfl rfl sb (by decide) ?_
  refine Rn.cs 60 rfl rfl rfl rfl i1 (by decide) ?_
  exact Rn.ir 60 rfl rfl rfl rfl
theorem bx12 {c : Nat → Nat} {o p : Nat} {V : Int32} {L : List Nat} (hc : PlOk c) (hp : p < c 4) (hB : BX c o p 11 6 4 V L) : BX c o p 12 7 5 (-V) (12 :: L) := by
  intro w ls dp hpl ho ht h12
  obtain ⟨w1, f1, f2, f3⟩ := bx_head (b := 12) (d := 6) hc hp (by decide) (show dp ≤ 12 by omega) hpl ht
  obtain ⟨w2, g1, g2, g3⟩ := hB w1 _ (dp + 1) (hpl.tf f1) (op12 ho f1) f2 (by omega)
  refine ⟨w2, f3 _ ?_, f1.tr g2, g3⟩
  refine Rn.tsw 60 (t := 136) rfl rfl rfl ?_
  refine Rn.cs 60 rfl rfl rfl rfl g1 (by decide) ?_
  exact Rn.ir 60 rfl rfl rfl rfl
-- the reference's
theorem mx10 {c : Nat → Nat} {o p : Nat} (hc : PlOk c) (hp : p < c 4) : MX c o p jM_size10 3 (nI (we c p)) [10] := by
  intro w ls nr ti sp dy wf hM ht
  obtain ⟨w1, f1, f2, f3⟩ := m_leaves (b := 10) ht
  refine ⟨w1, ?_, f2, f3⟩
  refine Cl.of rfl rfl rfl (lc := [some (vR (sg 13)), some (vI (nI p))]) rfl ?_
  refine Rn.cv 60 rfl rfl rfl rfl rfl f1 (by decide) ?_
  refine Rn.cv 60 rfl rfl rfl rfl rfl (m_we hc (hM.ufr f2).pl hp) (by decide) ?_
  exact Rn.ir 60 rfl rfl rfl rfl
theorem mx20 {c : Nat → Nat} {o p : Nat} : MX c o p jM_mark20 2 (nI p) [20] := by
  intro w ls nr ti sp dy wf hM ht
  obtain ⟨w1, f1, f2, f3⟩ := m_leaves (b := 20) ht
  refine ⟨w1, ?_, f2, f3⟩
  refine Cl.of rfl rfl rfl (lc := [some (vR (sg 13)), some (vI (nI p))]) rfl ?_
  refine Rn.cv 60 rfl rfl rfl rfl rfl f1 (by decide) ?_
  exact Rn.ir 60 rfl rfl rfl rfl
theorem mx13 {c : Nat → Nat} {o p : Nat} (hc : PlOk c) (hp : p < c 4) : MX c o p jM_size13 4 (nI (we c p) - nI 100) [13, 10] := by
  intro w ls nr ti sp dy wf hM ht
  obtain ⟨w1, f1, f2, f3⟩ := m_leaves (b := 13) ht
  obtain ⟨w2, g1, g2, g3⟩ := mx10 (o := o) hc hp w1 _ nr ti sp dy wf (hM.ufr f2) f3
  refine ⟨w2, ?_, f2.tr g2, g3⟩
  refine Cl.of rfl rfl rfl (lc := [some (vR (sg 13)), some (vI (nI p))]) rfl ?_
  refine Rn.cv 60 rfl rfl rfl rfl rfl f1 (by decide) ?_
  refine Rn.cv 60 rfl rfl rfl rfl rfl g1 (by decide) ?_
  exact Rn.ir 60 rfl rfl rfl rfl
theorem mx14 {c : Nat → Nat} {o p : Nat} (hc : PlOk c) (hp : p < c 4) : MX c o p jM_size14 5 (nI 2 * (nI (we c p) - nI 100)) [14, 13, 10] := by
  intro w ls nr ti sp dy wf hM ht
  obtain ⟨w1, f1, f2, f3⟩ := m_leaves (b := 14) ht
  obtain ⟨w2, g1, g2, g3⟩ := mx13 (o := o) hc hp w1 _ nr ti sp dy wf (hM.ufr f2) f3
  refine ⟨w2, ?_, f2.tr g2, g3⟩
  refine Cl.of rfl rfl rfl (lc := [some (vR (sg 13)), some (vI (nI p))]) rfl ?_
  refine Rn.cv 60 rfl rfl rfl rfl rfl f1 (by decide) ?_
  refine Rn.cv 60 rfl rfl rfl rfl rfl g1 (by decide) ?_
  exact Rn.ir 60 rfl rfl rfl rfl
theorem mx21 {c : Nat → Nat} {o p : Nat} (hc : PlOk c) (hp : p < c 4) (h8 : o < 256) : MX c o p jM_mark21 3 (v21 c o p) [21, 20] := by
  intro w ls nr ti sp dy wf hM ht
  obtain ⟨_, q1, _, _⟩ := hc.2.2.2.2 p hp
  obtain ⟨w1, f1, f2, f3⟩ := m_leaves (b := 21) ht
  obtain ⟨w2, g1, g2, g3⟩ := mx20 (o := o) w1 _ nr ti sp dy wf (hM.ufr f2) f3
  have hM2 := (hM.ufr f2).ufr g2
  refine ⟨w2, ?_, f2.tr g2, g3⟩
  refine Cl.of rfl rfl rfl (lc := [some (vR (sg 13)), some (vI (nI p))]) rfl ?_
  refine Rn.cv 60 rfl rfl rfl rfl rfl f1 (by decide) ?_
  refine Rn.cv 60 rfl rfl rfl rfl rfl g1 (by decide) ?_
  refine Rn.cv 60 rfl rfl rfl rfl rfl (m_ho hc hM2.pl hp) (by decide) ?_
  refine Rn.cv 60 rfl rfl rfl rfl rfl (m_get (k := 6) (v := nI o) hM2.1 rfl (by decide) hM2.2.2.2.2.2.2.2.1) (by decide) ?_
  refine Rn.cv 60 rfl rfl rfl rfl rfl (m_reachBy hc hM2.pl h8 q1) (by decide) ?_
  refine Rn.cs 60 rfl rfl rfl rfl (m_manyOf (by have := rc_lt hc o q1; omega)) (by decide) ?_
  exact Rn.ir 60 rfl rfl rfl rfl
theorem mx22 {c : Nat → Nat} {o p : Nat} (hc : PlOk c) (hp : p < c 4) (h8 : o < 256) : MX c o p jM_mark22 4 (v21 c o p - nI 1000) [22, 21, 20] := by
  intro w ls nr ti sp dy wf hM ht
  obtain ⟨w1, f1, f2, f3⟩ := m_leaves (b := 22) ht
  obtain ⟨w2, g1, g2, g3⟩ := mx21 (o := o) hc hp h8 w1 _ nr ti sp dy wf (hM.ufr f2) f3
  refine ⟨w2, ?_, f2.tr g2, g3⟩
  refine Cl.of rfl rfl rfl (lc := [some (vR (sg 13)), some (vI (nI p))]) rfl ?_
  refine Rn.cv 60 rfl rfl rfl rfl rfl f1 (by decide) ?_
  refine Rn.cv 60 rfl rfl rfl rfl rfl g1 (by decide) ?_
  exact Rn.ir 60 rfl rfl rfl rfl
theorem mx24 {c : Nat → Nat} {o p : Nat} (hc : PlOk c) (hp : p < c 4) (h8 : o < 256) : MX c o p jM_mark24 4 (nI 2 * v21 c o p) [24, 21, 20] := by
  intro w ls nr ti sp dy wf hM ht
  obtain ⟨w1, f1, f2, f3⟩ := m_leaves (b := 24) ht
  obtain ⟨w2, g1, g2, g3⟩ := mx21 (o := o) hc hp h8 w1 _ nr ti sp dy wf (hM.ufr f2) f3
  refine ⟨w2, ?_, f2.tr g2, g3⟩
  refine Cl.of rfl rfl rfl (lc := [some (vR (sg 13)), some (vI (nI p))]) rfl ?_
  refine Rn.cv 60 rfl rfl rfl rfl rfl f1 (by decide) ?_
  refine Rn.cv 60 rfl rfl rfl rfl rfl g1 (by decide) ?_
  exact Rn.ir 60 rfl rfl rfl rfl
theorem mx23 {c : Nat → Nat} {o p : Nat} {V : Int32} {L : List Nat} (hc : PlOk c) (hp : p < c 4) (hB : (so c p = 5 → MX c o p jM_size14 5 V L) ∧ (so c p ≠ 5 → MX c o p jM_size13 5 V L)) : MX c o p jM_mark23 6 (nI p - V) (23 :: 20 :: L) := by
  intro w ls nr ti sp dy wf hM ht
  have s5 := (hc.2.2.2.2 p hp).1
  obtain ⟨w1, f1, f2, f3⟩ := m_leaves (b := 23) ht
  obtain ⟨w2, g1, g2, g3⟩ := mx20 (o := o) w1 _ nr ti sp dy wf (hM.ufr f2) f3
  have hM2 := (hM.ufr f2).ufr g2
  have go : ∀ w3, Rn none 5 jM_mark23 (19, [some (vR (sg 13)), some (vI (nI p)), some (vI (nI p))], [vI (nI (so c p)), vI (nI p)], w2) (some (vI (nI p - V)), w3) → Cl 6 jM_mark23 [vR (sg 13), vI (nI p)] w (some (vI (nI p - V)), w3) := by
    intro w3 k
    refine Cl.of rfl rfl rfl (lc := [some (vR (sg 13)), some (vI (nI p)), none]) rfl ?_
    refine Rn.cv 60 rfl rfl rfl rfl rfl f1 (by decide) ?_
    refine Rn.cv 60 rfl rfl rfl rfl rfl g1 (by decide) ?_
    exact Rn.cv 60 rfl rfl rfl rfl rfl (m_so hc hM2.pl hp) (by decide) k
  by_cases e : so c p = 5
  · obtain ⟨w3, i1, i2, i3⟩ := hB.1 e w2 _ nr ti sp dy wf hM2 g3
    refine ⟨w3, go w3 ?_, (f2.tr g2).tr i2, i3⟩
    refine Rn.if2f 60 rfl rfl (by dsimp only [tm_c2P]; rw [e]; exact fun z => z rfl) ?_
    refine Rn.cv 60 rfl rfl rfl rfl rfl i1 (by decide) ?_
    exact Rn.ir 60 rfl rfl rfl rfl
  · obtain ⟨w3, i1, i2, i3⟩ := hB.2 e w2 _ nr ti sp dy wf hM2 g3
    refine ⟨w3, go w3 ?_, (f2.tr g2).tr i2, i3⟩
    refine Rn.if2t 60 rfl rfl (by dsimp only [tm_c2P]; rw [nI_eq (by omega) (by decide)]; exact e) ?_
    refine Rn.cv 60 rfl rfl rfl rfl rfl i1 (by decide) ?_
    exact Rn.ir 60 rfl rfl rfl rfl
end
section
/-! ask: the call -/
theorem MX.up {c : Nat → Nat} {o p J D D' : Nat} {V : Int32} {L : List Nat} (H : MX c o p J D V L) (hD : D ≤ D') : MX c o p J D' V L := by
  intro w ls nr ti sp dy wf h1 h2
  obtain ⟨w', a1, a2⟩ := H w ls nr ti sp dy wf h1 h2
  exact ⟨w', a1.up hD, a2⟩
theorem marks {c : Nat → Nat} {o p : Nat} (hc : PlOk c) (hp : p < c 4) (h8 : o < 256) (s1 : 1 ≤ so c p) : ∃ V L, BX c o p (mkB (so c p)) 5 3 V L ∧ MX c o p jM_markOf 7 V L := by
  have s5 := (hc.2.2.2.2 p hp).1
  have head : ∀ {w : Wd} {r : Rs}, MPl w c → Rn none 6 jM_markOf (9, [some (vR (sg 13)), some (vI (nI p)), some (vI (nI (so c p)))], [vI (nI 1), vI (nI (so c p))], w) r → Cl 7 jM_markOf [vR (sg 13), vI (nI p)] w r := by
    intro w r hM k
    refine Cl.of rfl rfl rfl (lc := [some (vR (sg 13)), some (vI (nI p)), none]) rfl ?_
    refine Rn.cv 60 rfl rfl rfl rfl rfl (m_so hc hM hp) (by decide) ?_
    exact Rn.at 3 rfl k
  rcases (by omega : so c p = 1 ∨ so c p = 2 ∨ so c p = 3 ∨ so c p = 4 ∨ so c p = 5) with e | e | e | e | e
  · refine ⟨v21 c o p, [21, 20], ?_, fun w ls nr ti sp dy wf hM ht => ?_⟩
    · rw [e]
      exact (bx21 hc hp h8).up (by decide) (by decide)
    · obtain ⟨w1, f1, f2⟩ := mx21 hc hp h8 w ls nr ti sp dy wf hM ht
      refine ⟨w1, head hM.pl ?_, f2⟩
      rw [e]
      refine Rn.if2f 60 rfl rfl (by dsimp only [tm_c2P]; decide) ?_
      refine Rn.cv 60 rfl rfl rfl rfl rfl f1 (by decide) ?_
      exact Rn.ir 60 rfl rfl rfl rfl
  · refine ⟨nI 2 * v21 c o p, [24, 21, 20], ?_, fun w ls nr ti sp dy wf hM ht => ?_⟩
    · rw [e]
      exact (bx24 hc hp h8).up (by decide) (by decide)
    · obtain ⟨w1, f1, f2⟩ := mx24 hc hp h8 w ls nr ti sp dy wf hM ht
      refine ⟨w1, head hM.pl ?_, f2⟩
      rw [e]
      refine Rn.if2t 60 rfl rfl (by dsimp only [tm_c2P]; decide) ?_
      refine Rn.if2f 60 rfl rfl (by dsimp only [tm_c2P]; decide) ?_
      refine Rn.cv 60 rfl rfl rfl rfl rfl f1 (by decide) ?_
      exact Rn.ir 60 rfl rfl rfl rfl
  · refine ⟨v21 c o p - nI 1000, [22, 21, 20], ?_, fun w ls nr ti sp dy wf hM ht => ?_⟩
    · rw [e]
      exact (bx22 hc hp h8).up (by decide) (by decide)
    · obtain ⟨w1, f1, f2⟩ := mx22 hc hp h8 w ls nr ti sp dy wf hM ht
      refine ⟨w1, head hM.pl ?_, f2⟩
      rw [e]
      refine Rn.if2t 60 rfl rfl (by dsimp only [tm_c2P]; decide) ?_
      refine Rn.if2t 60 rfl rfl (by dsimp only [tm_c2P]; decide) ?_
      refine Rn.if2f 60 rfl rfl (by dsimp only [tm_c2P]; decide) ?_
      refine Rn.cv 60 rfl rfl rfl rfl rfl f1 (by decide) ?_
      exact Rn.ir 60 rfl rfl rfl rfl
  · have hB : BX c o p 13 4 2 (nI (we c p) - nI 100) [13, 10] := (bx13 hc hp).up (by decide) (by decide)
    refine ⟨nI p - (nI (we c p) - nI 100), [23, 20, 13, 10], ?_, fun w ls nr ti sp dy wf hM ht => ?_⟩
    · have h := bx23 hc hp s1 (by rw [e]; rfl) hB
      rw [e]
      exact h
    · obtain ⟨w1, f1, f2⟩ := mx23 (o := o) (V := nI (we c p) - nI 100) (L := [13, 10]) hc hp ⟨fun z => by omega, fun _ => (mx13 hc hp).up (by decide)⟩ w ls nr ti sp dy wf hM ht
      refine ⟨w1, head hM.pl ?_, f2⟩
      rw [e]
      refine Rn.if2t 60 rfl rfl (by dsimp only [tm_c2P]; decide) ?_
      refine Rn.if2t 60 rfl rfl (by dsimp only [tm_c2P]; decide) ?_
      refine Rn.if2t 60 rfl rfl (by dsimp only [tm_c2P]; decide) ?_
      refine Rn.cv 60 rfl rfl rfl rfl rfl f1 (by decide) ?_
      exact Rn.ir 60 rfl rfl rfl rfl
  · have hB : BX c o p 14 4 2 (nI 2 * (nI (we c p) - nI 100)) [14, 13, 10] := bx14 hc hp
    refine ⟨nI p - nI 2 * (nI (we c p) - nI 100), [23, 20, 14, 13, 10], ?_, fun w ls nr ti sp dy wf hM ht => ?_⟩
    · have h := bx23 hc hp s1 (by rw [e]; rfl) hB
      rw [e]
      exact h
    · obtain ⟨w1, f1, f2⟩ := mx23 (o := o) (V := nI 2 * (nI (we c p) - nI 100)) (L := [14, 13, 10]) hc hp ⟨fun _ => mx14 hc hp, fun z => absurd e z⟩ w ls nr ti sp dy wf hM ht
      refine ⟨w1, head hM.pl ?_, f2⟩
      rw [e]
      refine Rn.if2t 60 rfl rfl (by dsimp only [tm_c2P]; decide) ?_
      refine Rn.if2t 60 rfl rfl (by dsimp only [tm_c2P]; decide) ?_
      refine Rn.if2t 60 rfl rfl (by dsimp only [tm_c2P]; decide) ?_
      refine Rn.cv 60 rfl rfl rfl rfl rfl f1 (by decide) ?_
      exact Rn.ir 60 rfl rfl rfl rfl
theorem mx11 {c : Nat → Nat} {o p : Nat} {V : Int32} {L : List Nat} (hc : PlOk c) (hp : p < c 4) (hB : MX c o p jM_markOf 7 V L) : MX c o p jM_size11 8 (nI (we c p) + V) (11 :: 10 :: L) := by
  intro w ls nr ti sp dy wf hM ht
  obtain ⟨w1, f1, f2, f3⟩ := m_leaves (b := 11) ht
  obtain ⟨w2, g1, g2, g3⟩ := mx10 (o := o) hc hp w1 _ nr ti sp dy wf (hM.ufr f2) f3
  obtain ⟨w3, i1, i2, i3⟩ := hB w2 _ nr ti sp dy wf ((hM.ufr f2).ufr g2) g3
  refine ⟨w3, ?_, (f2.tr g2).tr i2, i3⟩
  refine Cl.of rfl rfl rfl (lc := [some (vR (sg 13)), some (vI (nI p)), none]) rfl ?_
  refine Rn.cv 60 rfl rfl rfl rfl rfl f1 (by decide) ?_
  refine Rn.cv 60 rfl rfl rfl rfl rfl g1 (by decide) ?_
  refine Rn.cv 60 rfl rfl rfl rfl rfl i1 (by decide) ?_
  exact Rn.ir 60 rfl rfl rfl rfl
theorem mx12 {c : Nat → Nat} {o p : Nat} {V : Int32} {L : List Nat} (hB : MX c o p jM_size11 8 V L) : MX c o p jM_size12 9 (-V) (12 :: L) := by
  intro w ls nr ti sp dy wf hM ht
  obtain ⟨w1, f1, f2, f3⟩ := m_leaves (b := 12) ht
  obtain ⟨w2, g1, g2, g3⟩ := hB w1 _ nr ti sp dy wf (hM.ufr f2) f3
  refine ⟨w2, ?_, f2.tr g2, g3⟩
  refine Cl.of rfl rfl rfl (lc := [some (vR (sg 13)), some (vI (nI p))]) rfl ?_
  refine Rn.cv 60 rfl rfl rfl rfl rfl f1 (by decide) ?_
  refine Rn.cv 60 rfl rfl rfl rfl rfl g1 (by decide) ?_
  exact Rn.ir 60 rfl rfl rfl rfl
theorem sizes {c : Nat → Nat} {o p : Nat} (hc : PlOk c) (hp : p < c 4) (h8 : o < 256) (s1 : 1 ≤ so c p) : ∃ V L, BX c o p (szB (so c p)) 7 5 V L ∧ MX c o p jM_sizeOf 10 V L := by
  have s5 := (hc.2.2.2.2 p hp).1
  obtain ⟨V, L, hb, hm⟩ := marks hc hp h8 s1
  have b11 := bx11 hc hp s1 rfl hb
  have m11 := mx11 hc hp hm
  have head : ∀ {w : Wd} {r : Rs}, MPl w c → Rn none 9 jM_sizeOf (9, [some (vR (sg 13)), some (vI (nI p)), some (vI (nI (so c p)))], [vI (nI 2), vI (nI (so c p))], w) r → Cl 10 jM_sizeOf [vR (sg 13), vI (nI p)] w r := by
    intro w r hM k
    refine Cl.of rfl rfl rfl (lc := [some (vR (sg 13)), some (vI (nI p)), none]) rfl ?_
    refine Rn.cv 60 rfl rfl rfl rfl rfl (m_so hc hM hp) (by decide) ?_
    exact Rn.at 3 rfl k
  rcases (by omega : (so c p = 1 ∨ so c p = 3) ∨ so c p = 2 ∨ so c p = 4 ∨ so c p = 5) with e | e | e | e
  · refine ⟨nI (we c p) + V, 11 :: 10 :: L, ?_, fun w ls nr ti sp dy wf hM ht => ?_⟩
    · have es : szB (so c p) = 11 := by unfold szB; rw [if_pos e]
      rw [es]
      exact b11.up (by decide) (by decide)
    · obtain ⟨w1, f1, f2⟩ := m11 w ls nr ti sp dy wf hM ht
      refine ⟨w1, head hM.pl ?_, f2⟩
      refine Rn.if2t 60 rfl rfl (by dsimp only [tm_c2P]; rw [nI_eq (by omega) (by decide)]; omega) ?_
      refine Rn.if2f 60 rfl rfl (nI_ge (by omega) (by decide)) ?_
      refine Rn.cv 60 rfl rfl rfl rfl rfl f1 (by decide) ?_
      exact Rn.ir 60 rfl rfl rfl rfl
  · refine ⟨-(nI (we c p) + V), 12 :: 11 :: 10 :: L, ?_, fun w ls nr ti sp dy wf hM ht => ?_⟩
    · rw [e]
      exact bx12 hc hp b11
    · obtain ⟨w1, f1, f2⟩ := mx12 m11 w ls nr ti sp dy wf hM ht
      refine ⟨w1, head hM.pl ?_, f2⟩
      rw [e]
      refine Rn.if2f 60 rfl rfl (by dsimp only [tm_c2P]; decide) ?_
      refine Rn.cv 60 rfl rfl rfl rfl rfl f1 (by decide) ?_
      exact Rn.ir 60 rfl rfl rfl rfl
  · refine ⟨nI (we c p) - nI 100, [13, 10], ?_, fun w ls nr ti sp dy wf hM ht => ?_⟩
    · rw [e]
      exact (bx13 hc hp).up (by decide) (by decide)
    · obtain ⟨w1, f1, f2⟩ := mx13 (o := o) hc hp w ls nr ti sp dy wf hM ht
      refine ⟨w1, head hM.pl ?_, f2⟩
      rw [e]
      refine Rn.if2t 60 rfl rfl (by dsimp only [tm_c2P]; decide) ?_
      refine Rn.if2t 60 rfl rfl (by dsimp only [tm_c2P]; decide) ?_
      refine Rn.if2f 60 rfl rfl (by dsimp only [tm_c2P]; decide) ?_
      refine Rn.cv 60 rfl rfl rfl rfl rfl f1 (by decide) ?_
      exact Rn.ir 60 rfl rfl rfl rfl
  · refine ⟨nI 2 * (nI (we c p) - nI 100), [14, 13, 10], ?_, fun w ls nr ti sp dy wf hM ht => ?_⟩
    · rw [e]
      exact (bx14 hc hp).up (by decide) (by decide)
    · obtain ⟨w1, f1, f2⟩ := mx14 (o := o) hc hp w ls nr ti sp dy wf hM ht
      refine ⟨w1, head hM.pl ?_, f2⟩
      rw [e]
      refine Rn.if2t 60 rfl rfl (by dsimp only [tm_c2P]; decide) ?_
      refine Rn.if2t 60 rfl rfl (by dsimp only [tm_c2P]; decide) ?_
      refine Rn.if2t 60 rfl rfl (by dsimp only [tm_c2P]; decide) ?_
      refine Rn.cv 60 rfl rfl rfl rfl rfl f1 (by decide) ?_
      exact Rn.ir 60 rfl rfl rfl rfl
theorem TrX.zero {w : Wd} : TrX (wset w (sg 11) 1 (nI 0)) [] := ⟨by decide, wset_s, fun i hi => absurd hi (by show ¬ i < 0; omega)⟩
theorem TrM.zero {w : Wd} : TrM (wset w (sg 13) 24 (nI 0)) [] := ⟨by decide, wset_s, fun i hi => absurd hi (by show ¬ i < 0; omega)⟩
theorem Inv.tra {w w' : Wd} (h : Inv w) (ht : TraI w') (e : ∀ n, n ≠ 3 → Same n w w') : Inv w' := ⟨h.1.same (e 0 (by decide)), h.2.1.same (e 1 (by decide)), h.2.2.1.same (e 2 (by decide)), ht, h.2.2.2.2.1.same (e 4 (by decide)), h.2.2.2.2.2.same (e 5 (by decide))⟩
theorem op_ask {x y : Int32} : Op jX_ask jM_ask [vI x, vI y] := by
  intro w hi
  obtain ⟨hb, c, nr, ti, o, sp, dy, wf, hok, hci, hma, hact⟩ := id hi.2.2.2.2.2
  have hM : Mt w c nr ti o sp dy wf := ⟨hb, hma⟩
  have hc := hok.1
  have hd := hok.2.1
  have hc4 := hc.2.2.1
  have x4 : w (cit 0 0) 4 = nI (c 4) := hci.1.2.2.1
  rcases pk_or (x := x) (n := c 4) (by omega) with h1 | ⟨p, hp, rfl⟩
  · refine op_same hi (v := -(nI 1000001)) ?_ ?_
    · refine Cl.of rfl rfl rfl (lc := [some (vR (sg 0)), some (vI x), some (vI y), none]) rfl ?_
      refine Rn.cs 60 rfl rfl rfl rfl (by rw [x4]; exact x_no (by omega) h1) (by decide) ?_
      refine Rn.if1t 60 rfl rfl (by dsimp only [tm_c2P]; decide) ?_
      exact Rn.ir 60 rfl rfl rfl rfl
    · refine Cl.of rfl rfl rfl (lc := [some (vR (sg 13)), some (vI x), some (vI y)]) rfl ?_
      refine Rn.cv 60 rfl rfl rfl rfl rfl (m_pno hc hM.pl h1) (by decide) ?_
      refine Rn.if1t 60 rfl rfl (by dsimp only [tm_c2P]; decide) ?_
      exact Rn.ir 60 rfl rfl rfl rfl
  have cx : ∀ {r0 : Rs}, Rn none 19 jX_ask (14, [some (vR (sg 0)), some (vI (nI p)), some (vI y), none], [], w) r0 → Cl 20 jX_ask [vR (sg 0), vI (nI p), vI y] w r0 := by
    intro r0 k
    refine Cl.of rfl rfl rfl (lc := [some (vR (sg 0)), some (vI (nI p)), some (vI y), none]) rfl ?_
    refine Rn.cs 60 rfl rfl rfl rfl (by rw [x4]; exact x_yes (by omega) hp) (by decide) ?_
    exact Rn.if1f 60 rfl rfl (by dsimp only [tm_c2P]; decide) k
  have cm : ∀ {w : Wd} {r0 : Rs}, MPl w c → Rn none 19 jM_ask (8, [some (vR (sg 13)), some (vI (nI p)), some (vI y)], [], w) r0 → Cl 20 jM_ask [vR (sg 13), vI (nI p), vI y] w r0 := by
    intro w r0 hpl k
    refine Cl.of rfl rfl rfl (lc := [some (vR (sg 13)), some (vI (nI p)), some (vI y)]) rfl ?_
    refine Rn.cv 60 rfl rfl rfl rfl rfl (m_pyes hc hpl hp) (by decide) ?_
    exact Rn.if1f 60 rfl rfl (by dsimp only [tm_c2P]; decide) k
  rcases pk_or (x := y) (n := 2) (by omega) with h1 | ⟨k, hk, rfl⟩
  · refine op_same hi (v := -(nI 1000001)) (cx ?_) (cm hM.pl ?_)
    · refine Rn.if1 60 rfl rfl (fun _ => Rn.ir 60 rfl rfl rfl rfl) (fun h2 => ?_)
      refine Rn.if2f 60 rfl rfl (Int32.not_le.mpr (nI_lt1 (n := 1) (by decide) (h1.resolve_left h2))) ?_
      exact Rn.ir 60 rfl rfl rfl rfl
    · refine Rn.cs 60 rfl rfl rfl rfl (m_no (n := 1) (by decide) h1) (by decide) ?_
      refine Rn.if1f 60 rfl rfl (by dsimp only [tm_c2P]; decide) ?_
      exact Rn.ir 60 rfl rfl rfl rfl
  have s1 := hok.2.2.2 p hp
  have s5 := (hc.2.2.2.2 p hp).1
  have all : ∀ {b J D V L}, BX c o p b 7 5 V L → MX c o p J D V L → D ≤ 19 → (∀ r0, Rn none 19 jX_ask (60, [some (vR (sg 0)), some (vI (nI p)), some (vI (nI k)), some (vI (nI (so c p)))], [vI (nI b), vI (nI p), vR (cit 0 0), vR (sg 11)], w) r0 → Rn none 19 jX_ask (26, [some (vR (sg 0)), some (vI (nI p)), some (vI (nI k)), none], [], w) r0) → (∀ W w2, Cl D J [vR (sg 13), vI (nI p)] W (some (vI V), w2) → Rn none 19 jM_ask (25, [some (vR (sg 13)), some (vI (nI p)), some (vI (nI k))], [], W) (some (vI V), w2)) → ∃ w1 w2 v, Cl 20 jX_ask [vR (sg 0), vI (nI p), vI (nI k)] w (some (vI v), w1) ∧ Cl 20 jM_ask [vR (sg 13), vI (nI p), vI (nI k)] w1 (some (vI v), w2) ∧ Inv w2 := by
    intro b J D V L hB hJ hD kx km
    have hp0 : PlIs (wset w (sg 11) 1 (nI 0)) 0 c := hci.1.of (by rw [wset_ne cit_sg]) (by rw [wset_ne cit_sg]) (by rw [wset_ne cit_sg]) (fun p _ _ => wset_ne cit_sg)
    obtain ⟨w1, f1, f2, f3⟩ := hB (wset w (sg 11) 1 (nI 0)) [] 0 hp0 (by rw [wset_ne cit_sg]; exact hci.2.1.2.2.1) TrX.zero (by decide)
    have e1 : ∀ t, t ≠ sg 11 → t ≠ sg 12 → w1 t = w t := fun t h1 h2 => (f2 t h1 h2).trans (wset_ne h1)
    have hM1 : Mt w1 c nr ti o sp dy wf := ⟨by rw [e1 _ (sg_ne (by decide)) (sg_ne (by decide))]; exact hb, hma.fr (e1 _ (sg_ne (by decide)) (sg_ne (by decide)))⟩
    have hM2 : Mt (wset w1 (sg 13) 24 (nI 0)) c nr ti o sp dy wf := ⟨by rw [wset_k (by decide)]; exact hM1.1, hM1.2.fr (wset_ne (sg_ne (by decide)))⟩
    obtain ⟨w2, g1, g2, g3⟩ := hJ (wset w1 (sg 13) 24 (nI 0)) [] nr ti sp dy wf hM2 TrM.zero
    refine ⟨w1, w2, V, cx ?_, cm hM1.pl ?_, hi.tra ⟨(L.foldl psh []).length, f3.1, ?_, g3.2.1, fun i hi => ?_⟩ (fun n h3 => ?_)⟩
    · refine Rn.if1f 60 rfl rfl (nI_pos (by omega)) ?_
      refine Rn.if2t 60 rfl rfl (nI_le (by omega) (by decide)) ?_
      refine kx _ ?_
      have an : Cl 8 jB_answer [vR (sg 11), vR (cit 0 0), vI (nI p), vI (nI b)] w (some (vI V), w1) := by
        refine Cl.of rfl rfl rfl (lc := [some (vR (sg 11)), some (vR (cit 0 0)), some (vI (nI p)), some (vI (nI b))]) rfl ?_
        refine Rn.cs 60 rfl rfl rfl rfl f1 (by decide) ?_
        exact Rn.ir 60 rfl rfl rfl rfl
      refine Rn.cv 60 rfl rfl rfl rfl rfl an (by decide) ?_
      exact Rn.ir 60 rfl rfl rfl rfl
    · refine Rn.cs 60 rfl rfl rfl rfl (m_yes (n := 1) (by decide) (by omega)) (by decide) ?_
      refine Rn.if1t 60 rfl rfl (by dsimp only [tm_c2P]; decide) ?_
      exact Rn.at 3 rfl (km _ _ g1)
    · rw [g2.1 _ (sg_ne (by decide)) (sg_ne (by decide)), wset_ne (sg_ne (by decide))]
      exact f3.2.1
    · rw [g2.1 _ (sg_ne (by decide)) (sg_ne (by decide)), wset_ne (sg_ne (by decide)), f3.2.2 i hi, g3.2.2 i hi]
    · intro t j e
      by_cases h13 : t = sg 13
      · subst h13
        have hj : j ≠ 24 := fun z => by subst z; exact h3 e.symm
        rw [g2.2 j hj, wset_k hj, e1 _ (sg_ne (by decide)) (sg_ne (by decide))]
      · have n22 : t ≠ sg 22 := fun z => by subst z; exact h3 e.symm
        rw [g2.1 t h13 n22, wset_ne h13, e1 t (fun z => by subst z; exact h3 e.symm) (fun z => by subst z; exact h3 e.symm)]
  rcases (by omega : k = 0 ∨ k = 1) with rfl | rfl
  · obtain ⟨V, L, hB, hJ⟩ := sizes hc hp hd.2.2.1 s1
    refine all hB hJ (by decide) (fun r0 kk => ?_) (fun W w2 hcl => ?_)
    · refine Rn.al 60 rfl rfl rfl rfl (by omega) ?_
      rw [(hci.1.2.2.2.2 p hp).1]
      refine Rn.if1f 60 rfl rfl (by dsimp only [tm_c2P]; decide) ?_
      refine Rn.cs 60 rfl rfl rfl rfl (x_sizeBody s1 s5) (by decide) ?_
      exact Rn.at 1 rfl kk
    · refine Rn.if1f 60 rfl rfl (by dsimp only [tm_c2P]; decide) ?_
      refine Rn.cv 60 rfl rfl rfl rfl rfl hcl (by decide) ?_
      exact Rn.ir 60 rfl rfl rfl rfl
  · obtain ⟨V, L, hB, hJ⟩ := marks hc hp hd.2.2.1 s1
    refine all (hB.up (by decide) (by decide)) hJ (by decide) (fun r0 kk => ?_) (fun W w2 hcl => ?_)
    · refine Rn.al 60 rfl rfl rfl rfl (by omega) ?_
      rw [(hci.1.2.2.2.2 p hp).1]
      refine Rn.if1t 60 rfl rfl (by dsimp only [tm_c2P]; decide) ?_
      exact Rn.cs 60 rfl rfl rfl rfl (x_markBody s1 s5) (by decide) kk
    · refine Rn.if1t 60 rfl rfl (by dsimp only [tm_c2P]; decide) ?_
      refine Rn.cv 60 rfl rfl rfl rfl rfl hcl (by decide) ?_
      exact Rn.ir 60 rfl rfl rfl rfl
end

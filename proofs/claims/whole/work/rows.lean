section
-- ===== PART A: goes FIRST, ahead of the names: the tables' words, and 'selects' of the private methods out of them =====
/-- a private method of a class that the tables say can be made, by its rows of tables_1 -/
def lw_okq (q : MethodName × Nat) : Prop := (q.1.cls ≠ "java/lang/invoke/MethodHandle" ∧ q.1.cls ≠ "java/lang/invoke/VarHandle") ∧ Cond.instantiable q.1.cls q.2 ∈ tables_1 ∧ Cond.privateMethod q.1 ∈ tables_1 ∧ Cond.instanceMethod q.1 ∈ tables_1
theorem lw_p0 : lw_okq (⟨"NobodyJoins", "found", "(I)I"⟩, 12) := ⟨⟨by decide +kernel, by decide +kernel⟩, List.mem_of_getElem? (i := 13) (by decide +kernel), List.mem_of_getElem? (i := 177) (by decide +kernel), List.mem_of_getElem? (i := 178) (by decide +kernel)⟩
theorem lw_p1 : lw_okq (⟨"NobodyJoins", "refusalOfPlace", "(II)I"⟩, 12) := ⟨⟨by decide +kernel, by decide +kernel⟩, List.mem_of_getElem? (i := 13) (by decide +kernel), List.mem_of_getElem? (i := 189) (by decide +kernel), List.mem_of_getElem? (i := 190) (by decide +kernel)⟩
theorem lw_p2 : lw_okq (⟨"NobodyJoins$Reader", "skipBlanks", "(LNobodyJoins$Text;)V"⟩, 2) := ⟨⟨by decide +kernel, by decide +kernel⟩, List.mem_of_getElem? (i := 74) (by decide +kernel), List.mem_of_getElem? (i := 263) (by decide +kernel), List.mem_of_getElem? (i := 264) (by decide +kernel)⟩
theorem lw_p3 : lw_okq (⟨"NobodyJoins$Reader", "readRule", "(LNobodyJoins$Text;LNobodyJoins$Club;)Z"⟩, 2) := ⟨⟨by decide +kernel, by decide +kernel⟩, List.mem_of_getElem? (i := 74) (by decide +kernel), List.mem_of_getElem? (i := 272) (by decide +kernel), List.mem_of_getElem? (i := 273) (by decide +kernel)⟩
theorem lw_p4 : lw_okq (⟨"NobodyJoins$Reader", "readPair", "(LNobodyJoins$Text;LNobodyJoins$Club;)Z"⟩, 2) := ⟨⟨by decide +kernel, by decide +kernel⟩, List.mem_of_getElem? (i := 74) (by decide +kernel), List.mem_of_getElem? (i := 281) (by decide +kernel), List.mem_of_getElem? (i := 282) (by decide +kernel)⟩
theorem lw_p5 : lw_okq (⟨"NobodyJoins$Reader", "readChild", "(LNobodyJoins$Text;LNobodyJoins$Club;)Z"⟩, 2) := ⟨⟨by decide +kernel, by decide +kernel⟩, List.mem_of_getElem? (i := 74) (by decide +kernel), List.mem_of_getElem? (i := 289) (by decide +kernel), List.mem_of_getElem? (i := 290) (by decide +kernel)⟩
theorem lw_p6 : lw_okq (⟨"NobodyJoins", "isChild", "(I)Z"⟩, 12) := ⟨⟨by decide +kernel, by decide +kernel⟩, List.mem_of_getElem? (i := 13) (by decide +kernel), List.mem_of_getElem? (i := 316) (by decide +kernel), List.mem_of_getElem? (i := 317) (by decide +kernel)⟩
theorem lw_p7 : lw_okq (⟨"NobodyJoins$Club", "isCarried", "(IIII)Z"⟩, 9) := ⟨⟨by decide +kernel, by decide +kernel⟩, List.mem_of_getElem? (i := 25) (by decide +kernel), List.mem_of_getElem? (i := 379) (by decide +kernel), List.mem_of_getElem? (i := 380) (by decide +kernel)⟩
theorem lw_p8 : lw_okq (⟨"NobodyJoins$Club", "doSistersAgree", "(II)Z"⟩, 9) := ⟨⟨by decide +kernel, by decide +kernel⟩, List.mem_of_getElem? (i := 25) (by decide +kernel), List.mem_of_getElem? (i := 383) (by decide +kernel), List.mem_of_getElem? (i := 384) (by decide +kernel)⟩
theorem lw_p9 : lw_okq (⟨"NobodyJoins$Club", "note", "(II)V"⟩, 9) := ⟨⟨by decide +kernel, by decide +kernel⟩, List.mem_of_getElem? (i := 25) (by decide +kernel), List.mem_of_getElem? (i := 396) (by decide +kernel), List.mem_of_getElem? (i := 397) (by decide +kernel)⟩
theorem lw_p10 : lw_okq (⟨"NobodyJoins$Club", "giveBack", "(I)V"⟩, 9) := ⟨⟨by decide +kernel, by decide +kernel⟩, List.mem_of_getElem? (i := 25) (by decide +kernel), List.mem_of_getElem? (i := 442) (by decide +kernel), List.mem_of_getElem? (i := 443) (by decide +kernel)⟩
theorem lw_p11 : lw_okq (⟨"NobodyJoins", "refusalOfOneIn", "(I)I"⟩, 12) := ⟨⟨by decide +kernel, by decide +kernel⟩, List.mem_of_getElem? (i := 13) (by decide +kernel), List.mem_of_getElem? (i := 461) (by decide +kernel), List.mem_of_getElem? (i := 462) (by decide +kernel)⟩
theorem lw_p12 : lw_okq (⟨"NobodyJoins$Orders", "measureLengths", "()V"⟩, 2) := ⟨⟨by decide +kernel, by decide +kernel⟩, List.mem_of_getElem? (i := 87) (by decide +kernel), List.mem_of_getElem? (i := 489) (by decide +kernel), List.mem_of_getElem? (i := 490) (by decide +kernel)⟩
theorem lw_p13 : lw_okq (⟨"NobodyJoins$Orders", "isWithin", "(I)Z"⟩, 2) := ⟨⟨by decide +kernel, by decide +kernel⟩, List.mem_of_getElem? (i := 87) (by decide +kernel), List.mem_of_getElem? (i := 493) (by decide +kernel), List.mem_of_getElem? (i := 494) (by decide +kernel)⟩
theorem lw_p14 : lw_okq (⟨"NobodyJoins$Orders", "firstOfLongest", "(I)I"⟩, 2) := ⟨⟨by decide +kernel, by decide +kernel⟩, List.mem_of_getElem? (i := 87) (by decide +kernel), List.mem_of_getElem? (i := 500) (by decide +kernel), List.mem_of_getElem? (i := 501) (by decide +kernel)⟩
theorem lw_p15 : lw_okq (⟨"NobodyJoins", "tellNumber", "(J)V"⟩, 12) := ⟨⟨by decide +kernel, by decide +kernel⟩, List.mem_of_getElem? (i := 13) (by decide +kernel), List.mem_of_getElem? (i := 521) (by decide +kernel), List.mem_of_getElem? (i := 522) (by decide +kernel)⟩
def lw_privs_1 : List (MethodName × Nat) := [(⟨"NobodyJoins", "found", "(I)I"⟩, 12), (⟨"NobodyJoins", "refusalOfPlace", "(II)I"⟩, 12), (⟨"NobodyJoins$Reader", "skipBlanks", "(LNobodyJoins$Text;)V"⟩, 2), (⟨"NobodyJoins$Reader", "readRule", "(LNobodyJoins$Text;LNobodyJoins$Club;)Z"⟩, 2), (⟨"NobodyJoins$Reader", "readPair", "(LNobodyJoins$Text;LNobodyJoins$Club;)Z"⟩, 2), (⟨"NobodyJoins$Reader", "readChild", "(LNobodyJoins$Text;LNobodyJoins$Club;)Z"⟩, 2), (⟨"NobodyJoins", "isChild", "(I)Z"⟩, 12), (⟨"NobodyJoins$Club", "isCarried", "(IIII)Z"⟩, 9), (⟨"NobodyJoins$Club", "doSistersAgree", "(II)Z"⟩, 9), (⟨"NobodyJoins$Club", "note", "(II)V"⟩, 9), (⟨"NobodyJoins$Club", "giveBack", "(I)V"⟩, 9), (⟨"NobodyJoins", "refusalOfOneIn", "(I)I"⟩, 12), (⟨"NobodyJoins$Orders", "measureLengths", "()V"⟩, 2), (⟨"NobodyJoins$Orders", "isWithin", "(I)Z"⟩, 2), (⟨"NobodyJoins$Orders", "firstOfLongest", "(I)I"⟩, 2), (⟨"NobodyJoins", "tellNumber", "(J)V"⟩, 12)]
theorem lw_r1 : ∀ q ∈ lw_privs_1, lw_okq q := List.forall_mem_cons.mpr ⟨lw_p0, List.forall_mem_cons.mpr ⟨lw_p1, List.forall_mem_cons.mpr ⟨lw_p2, List.forall_mem_cons.mpr ⟨lw_p3, List.forall_mem_cons.mpr ⟨lw_p4, List.forall_mem_cons.mpr ⟨lw_p5, List.forall_mem_cons.mpr ⟨lw_p6, List.forall_mem_cons.mpr ⟨lw_p7, List.forall_mem_cons.mpr ⟨lw_p8, List.forall_mem_cons.mpr ⟨lw_p9, List.forall_mem_cons.mpr ⟨lw_p10, List.forall_mem_cons.mpr ⟨lw_p11, List.forall_mem_cons.mpr ⟨lw_p12, List.forall_mem_cons.mpr ⟨lw_p13, List.forall_mem_cons.mpr ⟨lw_p14, List.forall_mem_cons.mpr ⟨lw_p15, fun _ h => absurd h List.not_mem_nil⟩⟩⟩⟩⟩⟩⟩⟩⟩⟩⟩⟩⟩⟩⟩⟩
theorem lw_p16 : lw_okq (⟨"NobodyJoins", "refusalOfClubAndRow", "(I)I"⟩, 12) := ⟨⟨by decide +kernel, by decide +kernel⟩, List.mem_of_getElem? (i := 13) (by decide +kernel), List.mem_of_getElem? (i := 543) (by decide +kernel), List.mem_of_getElem? (i := 544) (by decide +kernel)⟩
theorem lw_p17 : lw_okq (⟨"NobodyJoins", "namesChildren", "(LNobodyJoins$Row;I)Z"⟩, 12) := ⟨⟨by decide +kernel, by decide +kernel⟩, List.mem_of_getElem? (i := 13) (by decide +kernel), List.mem_of_getElem? (i := 547) (by decide +kernel), List.mem_of_getElem? (i := 548) (by decide +kernel)⟩
theorem lw_p18 : lw_okq (⟨"NobodyJoins$Orders", "firstGrudge", "(I)I"⟩, 2) := ⟨⟨by decide +kernel, by decide +kernel⟩, List.mem_of_getElem? (i := 87) (by decide +kernel), List.mem_of_getElem? (i := 567) (by decide +kernel), List.mem_of_getElem? (i := 568) (by decide +kernel)⟩
theorem lw_p19 : lw_okq (⟨"NobodyJoins$Orders", "isPairIn", "(I)Z"⟩, 2) := ⟨⟨by decide +kernel, by decide +kernel⟩, List.mem_of_getElem? (i := 87) (by decide +kernel), List.mem_of_getElem? (i := 572) (by decide +kernel), List.mem_of_getElem? (i := 573) (by decide +kernel)⟩
theorem lw_p20 : lw_okq (⟨"NobodyJoins$Orders", "toggle", "(I)V"⟩, 2) := ⟨⟨by decide +kernel, by decide +kernel⟩, List.mem_of_getElem? (i := 87) (by decide +kernel), List.mem_of_getElem? (i := 577) (by decide +kernel), List.mem_of_getElem? (i := 578) (by decide +kernel)⟩
theorem lw_p21 : lw_okq (⟨"NobodyJoins$Orders", "firstTwoGrudges", "()I"⟩, 2) := ⟨⟨by decide +kernel, by decide +kernel⟩, List.mem_of_getElem? (i := 87) (by decide +kernel), List.mem_of_getElem? (i := 582) (by decide +kernel), List.mem_of_getElem? (i := 583) (by decide +kernel)⟩
theorem lw_p22 : lw_okq (⟨"NobodyJoins", "tellPart", "(JJ)V"⟩, 12) := ⟨⟨by decide +kernel, by decide +kernel⟩, List.mem_of_getElem? (i := 13) (by decide +kernel), List.mem_of_getElem? (i := 599) (by decide +kernel), List.mem_of_getElem? (i := 600) (by decide +kernel)⟩
theorem lw_p23 : lw_okq (⟨"NobodyJoins", "rowsThere", "()I"⟩, 12) := ⟨⟨by decide +kernel, by decide +kernel⟩, List.mem_of_getElem? (i := 13) (by decide +kernel), List.mem_of_getElem? (i := 683) (by decide +kernel), List.mem_of_getElem? (i := 684) (by decide +kernel)⟩
theorem lw_p24 : lw_okq (⟨"NobodyJoins", "textsThere", "()I"⟩, 12) := ⟨⟨by decide +kernel, by decide +kernel⟩, List.mem_of_getElem? (i := 13) (by decide +kernel), List.mem_of_getElem? (i := 687) (by decide +kernel), List.mem_of_getElem? (i := 688) (by decide +kernel)⟩
theorem lw_p25 : lw_okq (⟨"NobodyJoins", "clubsKept", "()I"⟩, 12) := ⟨⟨by decide +kernel, by decide +kernel⟩, List.mem_of_getElem? (i := 13) (by decide +kernel), List.mem_of_getElem? (i := 691) (by decide +kernel), List.mem_of_getElem? (i := 692) (by decide +kernel)⟩
theorem lw_p26 : lw_okq (⟨"NobodyJoinsModel", "find", "(I)I"⟩, 23) := ⟨⟨by decide +kernel, by decide +kernel⟩, List.mem_of_getElem? (i := 720) (by decide +kernel), List.mem_of_getElem? (i := 808) (by decide +kernel), List.mem_of_getElem? (i := 809) (by decide +kernel)⟩
theorem lw_p27 : lw_okq (⟨"NobodyJoinsModel", "makeRow", "(II)V"⟩, 23) := ⟨⟨by decide +kernel, by decide +kernel⟩, List.mem_of_getElem? (i := 720) (by decide +kernel), List.mem_of_getElem? (i := 812) (by decide +kernel), List.mem_of_getElem? (i := 813) (by decide +kernel)⟩
theorem lw_p28 : lw_okq (⟨"NobodyJoinsModel", "refused", "(II)I"⟩, 23) := ⟨⟨by decide +kernel, by decide +kernel⟩, List.mem_of_getElem? (i := 720) (by decide +kernel), List.mem_of_getElem? (i := 820) (by decide +kernel), List.mem_of_getElem? (i := 821) (by decide +kernel)⟩
theorem lw_p29 : lw_okq (⟨"NobodyJoinsModel", "tell", "(I)I"⟩, 23) := ⟨⟨by decide +kernel, by decide +kernel⟩, List.mem_of_getElem? (i := 720) (by decide +kernel), List.mem_of_getElem? (i := 824) (by decide +kernel), List.mem_of_getElem? (i := 825) (by decide +kernel)⟩
theorem lw_p30 : lw_okq (⟨"NobodyJoinsModel", "isSpan", "(III)Z"⟩, 23) := ⟨⟨by decide +kernel, by decide +kernel⟩, List.mem_of_getElem? (i := 720) (by decide +kernel), List.mem_of_getElem? (i := 840) (by decide +kernel), List.mem_of_getElem? (i := 841) (by decide +kernel)⟩
theorem lw_p31 : lw_okq (⟨"NobodyJoinsModel", "faultOf", "(I)I"⟩, 23) := ⟨⟨by decide +kernel, by decide +kernel⟩, List.mem_of_getElem? (i := 720) (by decide +kernel), List.mem_of_getElem? (i := 864) (by decide +kernel), List.mem_of_getElem? (i := 865) (by decide +kernel)⟩
def lw_privs_2 : List (MethodName × Nat) := [(⟨"NobodyJoins", "refusalOfClubAndRow", "(I)I"⟩, 12), (⟨"NobodyJoins", "namesChildren", "(LNobodyJoins$Row;I)Z"⟩, 12), (⟨"NobodyJoins$Orders", "firstGrudge", "(I)I"⟩, 2), (⟨"NobodyJoins$Orders", "isPairIn", "(I)Z"⟩, 2), (⟨"NobodyJoins$Orders", "toggle", "(I)V"⟩, 2), (⟨"NobodyJoins$Orders", "firstTwoGrudges", "()I"⟩, 2), (⟨"NobodyJoins", "tellPart", "(JJ)V"⟩, 12), (⟨"NobodyJoins", "rowsThere", "()I"⟩, 12), (⟨"NobodyJoins", "textsThere", "()I"⟩, 12), (⟨"NobodyJoins", "clubsKept", "()I"⟩, 12), (⟨"NobodyJoinsModel", "find", "(I)I"⟩, 23), (⟨"NobodyJoinsModel", "makeRow", "(II)V"⟩, 23), (⟨"NobodyJoinsModel", "refused", "(II)I"⟩, 23), (⟨"NobodyJoinsModel", "tell", "(I)I"⟩, 23), (⟨"NobodyJoinsModel", "isSpan", "(III)Z"⟩, 23), (⟨"NobodyJoinsModel", "faultOf", "(I)I"⟩, 23)]
theorem lw_r2 : ∀ q ∈ lw_privs_2, lw_okq q := List.forall_mem_cons.mpr ⟨lw_p16, List.forall_mem_cons.mpr ⟨lw_p17, List.forall_mem_cons.mpr ⟨lw_p18, List.forall_mem_cons.mpr ⟨lw_p19, List.forall_mem_cons.mpr ⟨lw_p20, List.forall_mem_cons.mpr ⟨lw_p21, List.forall_mem_cons.mpr ⟨lw_p22, List.forall_mem_cons.mpr ⟨lw_p23, List.forall_mem_cons.mpr ⟨lw_p24, List.forall_mem_cons.mpr ⟨lw_p25, List.forall_mem_cons.mpr ⟨lw_p26, List.forall_mem_cons.mpr ⟨lw_p27, List.forall_mem_cons.mpr ⟨lw_p28, List.forall_mem_cons.mpr ⟨lw_p29, List.forall_mem_cons.mpr ⟨lw_p30, List.forall_mem_cons.mpr ⟨lw_p31, fun _ h => absurd h List.not_mem_nil⟩⟩⟩⟩⟩⟩⟩⟩⟩⟩⟩⟩⟩⟩⟩⟩
theorem lw_p32 : lw_okq (⟨"NobodyJoinsModel", "readsRule", "()Z"⟩, 23) := ⟨⟨by decide +kernel, by decide +kernel⟩, List.mem_of_getElem? (i := 720) (by decide +kernel), List.mem_of_getElem? (i := 868) (by decide +kernel), List.mem_of_getElem? (i := 869) (by decide +kernel)⟩
theorem lw_p33 : lw_okq (⟨"NobodyJoinsModel", "skip", "()V"⟩, 23) := ⟨⟨by decide +kernel, by decide +kernel⟩, List.mem_of_getElem? (i := 720) (by decide +kernel), List.mem_of_getElem? (i := 872) (by decide +kernel), List.mem_of_getElem? (i := 873) (by decide +kernel)⟩
theorem lw_p34 : lw_okq (⟨"NobodyJoinsModel", "here", "()I"⟩, 23) := ⟨⟨by decide +kernel, by decide +kernel⟩, List.mem_of_getElem? (i := 720) (by decide +kernel), List.mem_of_getElem? (i := 876) (by decide +kernel), List.mem_of_getElem? (i := 877) (by decide +kernel)⟩
theorem lw_p35 : lw_okq (⟨"NobodyJoinsModel", "figure", "(I)I"⟩, 23) := ⟨⟨by decide +kernel, by decide +kernel⟩, List.mem_of_getElem? (i := 720) (by decide +kernel), List.mem_of_getElem? (i := 880) (by decide +kernel), List.mem_of_getElem? (i := 881) (by decide +kernel)⟩
theorem lw_p36 : lw_okq (⟨"NobodyJoinsModel", "readsPair", "()Z"⟩, 23) := ⟨⟨by decide +kernel, by decide +kernel⟩, List.mem_of_getElem? (i := 720) (by decide +kernel), List.mem_of_getElem? (i := 885) (by decide +kernel), List.mem_of_getElem? (i := 886) (by decide +kernel)⟩
theorem lw_p37 : lw_okq (⟨"NobodyJoinsModel", "readsChild", "()Z"⟩, 23) := ⟨⟨by decide +kernel, by decide +kernel⟩, List.mem_of_getElem? (i := 720) (by decide +kernel), List.mem_of_getElem? (i := 892) (by decide +kernel), List.mem_of_getElem? (i := 893) (by decide +kernel)⟩
theorem lw_p38 : lw_okq (⟨"NobodyJoinsModel", "isChild", "(I)Z"⟩, 23) := ⟨⟨by decide +kernel, by decide +kernel⟩, List.mem_of_getElem? (i := 720) (by decide +kernel), List.mem_of_getElem? (i := 907) (by decide +kernel), List.mem_of_getElem? (i := 908) (by decide +kernel)⟩
theorem lw_p39 : lw_okq (⟨"NobodyJoinsModel", "toldOf", "(II)I"⟩, 23) := ⟨⟨by decide +kernel, by decide +kernel⟩, List.mem_of_getElem? (i := 720) (by decide +kernel), List.mem_of_getElem? (i := 911) (by decide +kernel), List.mem_of_getElem? (i := 912) (by decide +kernel)⟩
theorem lw_p40 : lw_okq (⟨"NobodyJoinsModel", "votes", "(I)I"⟩, 23) := ⟨⟨by decide +kernel, by decide +kernel⟩, List.mem_of_getElem? (i := 720) (by decide +kernel), List.mem_of_getElem? (i := 915) (by decide +kernel), List.mem_of_getElem? (i := 916) (by decide +kernel)⟩
theorem lw_p41 : lw_okq (⟨"NobodyJoinsModel", "likedBy", "(I)I"⟩, 23) := ⟨⟨by decide +kernel, by decide +kernel⟩, List.mem_of_getElem? (i := 720) (by decide +kernel), List.mem_of_getElem? (i := 919) (by decide +kernel), List.mem_of_getElem? (i := 920) (by decide +kernel)⟩
theorem lw_p42 : lw_okq (⟨"NobodyJoinsModel", "liking", "(II)I"⟩, 23) := ⟨⟨by decide +kernel, by decide +kernel⟩, List.mem_of_getElem? (i := 720) (by decide +kernel), List.mem_of_getElem? (i := 923) (by decide +kernel), List.mem_of_getElem? (i := 924) (by decide +kernel)⟩
theorem lw_p43 : lw_okq (⟨"NobodyJoinsModel", "likes", "(II)Z"⟩, 23) := ⟨⟨by decide +kernel, by decide +kernel⟩, List.mem_of_getElem? (i := 720) (by decide +kernel), List.mem_of_getElem? (i := 927) (by decide +kernel), List.mem_of_getElem? (i := 928) (by decide +kernel)⟩
theorem lw_p44 : lw_okq (⟨"NobodyJoinsModel", "isOf", "(II)Z"⟩, 23) := ⟨⟨by decide +kernel, by decide +kernel⟩, List.mem_of_getElem? (i := 720) (by decide +kernel), List.mem_of_getElem? (i := 935) (by decide +kernel), List.mem_of_getElem? (i := 936) (by decide +kernel)⟩
theorem lw_p45 : lw_okq (⟨"NobodyJoinsModel", "outs", "(I)I"⟩, 23) := ⟨⟨by decide +kernel, by decide +kernel⟩, List.mem_of_getElem? (i := 720) (by decide +kernel), List.mem_of_getElem? (i := 950) (by decide +kernel), List.mem_of_getElem? (i := 951) (by decide +kernel)⟩
theorem lw_p46 : lw_okq (⟨"NobodyJoinsModel", "isOut", "(III)Z"⟩, 23) := ⟨⟨by decide +kernel, by decide +kernel⟩, List.mem_of_getElem? (i := 720) (by decide +kernel), List.mem_of_getElem? (i := 954) (by decide +kernel), List.mem_of_getElem? (i := 955) (by decide +kernel)⟩
theorem lw_p47 : lw_okq (⟨"NobodyJoinsModel", "ofKind", "(II)I"⟩, 23) := ⟨⟨by decide +kernel, by decide +kernel⟩, List.mem_of_getElem? (i := 720) (by decide +kernel), List.mem_of_getElem? (i := 958) (by decide +kernel), List.mem_of_getElem? (i := 959) (by decide +kernel)⟩
def lw_privs_3 : List (MethodName × Nat) := [(⟨"NobodyJoinsModel", "readsRule", "()Z"⟩, 23), (⟨"NobodyJoinsModel", "skip", "()V"⟩, 23), (⟨"NobodyJoinsModel", "here", "()I"⟩, 23), (⟨"NobodyJoinsModel", "figure", "(I)I"⟩, 23), (⟨"NobodyJoinsModel", "readsPair", "()Z"⟩, 23), (⟨"NobodyJoinsModel", "readsChild", "()Z"⟩, 23), (⟨"NobodyJoinsModel", "isChild", "(I)Z"⟩, 23), (⟨"NobodyJoinsModel", "toldOf", "(II)I"⟩, 23), (⟨"NobodyJoinsModel", "votes", "(I)I"⟩, 23), (⟨"NobodyJoinsModel", "likedBy", "(I)I"⟩, 23), (⟨"NobodyJoinsModel", "liking", "(II)I"⟩, 23), (⟨"NobodyJoinsModel", "likes", "(II)Z"⟩, 23), (⟨"NobodyJoinsModel", "isOf", "(II)Z"⟩, 23), (⟨"NobodyJoinsModel", "outs", "(I)I"⟩, 23), (⟨"NobodyJoinsModel", "isOut", "(III)Z"⟩, 23), (⟨"NobodyJoinsModel", "ofKind", "(II)I"⟩, 23)]
theorem lw_r3 : ∀ q ∈ lw_privs_3, lw_okq q := List.forall_mem_cons.mpr ⟨lw_p32, List.forall_mem_cons.mpr ⟨lw_p33, List.forall_mem_cons.mpr ⟨lw_p34, List.forall_mem_cons.mpr ⟨lw_p35, List.forall_mem_cons.mpr ⟨lw_p36, List.forall_mem_cons.mpr ⟨lw_p37, List.forall_mem_cons.mpr ⟨lw_p38, List.forall_mem_cons.mpr ⟨lw_p39, List.forall_mem_cons.mpr ⟨lw_p40, List.forall_mem_cons.mpr ⟨lw_p41, List.forall_mem_cons.mpr ⟨lw_p42, List.forall_mem_cons.mpr ⟨lw_p43, List.forall_mem_cons.mpr ⟨lw_p44, List.forall_mem_cons.mpr ⟨lw_p45, List.forall_mem_cons.mpr ⟨lw_p46, List.forall_mem_cons.mpr ⟨lw_p47, fun _ h => absurd h List.not_mem_nil⟩⟩⟩⟩⟩⟩⟩⟩⟩⟩⟩⟩⟩⟩⟩⟩
theorem lw_p48 : lw_okq (⟨"NobodyJoinsModel", "isAgainst", "(III)Z"⟩, 23) := ⟨⟨by decide +kernel, by decide +kernel⟩, List.mem_of_getElem? (i := 720) (by decide +kernel), List.mem_of_getElem? (i := 962) (by decide +kernel), List.mem_of_getElem? (i := 963) (by decide +kernel)⟩
theorem lw_p49 : lw_okq (⟨"NobodyJoinsModel", "yesFor", "(II)I"⟩, 23) := ⟨⟨by decide +kernel, by decide +kernel⟩, List.mem_of_getElem? (i := 720) (by decide +kernel), List.mem_of_getElem? (i := 966) (by decide +kernel), List.mem_of_getElem? (i := 967) (by decide +kernel)⟩
theorem lw_p50 : lw_okq (⟨"NobodyJoinsModel", "votesOf", "(I)I"⟩, 23) := ⟨⟨by decide +kernel, by decide +kernel⟩, List.mem_of_getElem? (i := 720) (by decide +kernel), List.mem_of_getElem? (i := 970) (by decide +kernel), List.mem_of_getElem? (i := 971) (by decide +kernel)⟩
theorem lw_p51 : lw_okq (⟨"NobodyJoinsModel", "doTurn", "(I)I"⟩, 23) := ⟨⟨by decide +kernel, by decide +kernel⟩, List.mem_of_getElem? (i := 720) (by decide +kernel), List.mem_of_getElem? (i := 974) (by decide +kernel), List.mem_of_getElem? (i := 975) (by decide +kernel)⟩
theorem lw_p52 : lw_okq (⟨"NobodyJoinsModel", "keepPast", "()V"⟩, 23) := ⟨⟨by decide +kernel, by decide +kernel⟩, List.mem_of_getElem? (i := 720) (by decide +kernel), List.mem_of_getElem? (i := 978) (by decide +kernel), List.mem_of_getElem? (i := 979) (by decide +kernel)⟩
theorem lw_p53 : lw_okq (⟨"NobodyJoinsModel", "mayJoin", "(I)Z"⟩, 23) := ⟨⟨by decide +kernel, by decide +kernel⟩, List.mem_of_getElem? (i := 720) (by decide +kernel), List.mem_of_getElem? (i := 986) (by decide +kernel), List.mem_of_getElem? (i := 987) (by decide +kernel)⟩
theorem lw_p54 : lw_okq (⟨"NobodyJoinsModel", "isIn", "(I)Z"⟩, 23) := ⟨⟨by decide +kernel, by decide +kernel⟩, List.mem_of_getElem? (i := 720) (by decide +kernel), List.mem_of_getElem? (i := 990) (by decide +kernel), List.mem_of_getElem? (i := 991) (by decide +kernel)⟩
theorem lw_p55 : lw_okq (⟨"NobodyJoinsModel", "doFee", "()I"⟩, 23) := ⟨⟨by decide +kernel, by decide +kernel⟩, List.mem_of_getElem? (i := 720) (by decide +kernel), List.mem_of_getElem? (i := 998) (by decide +kernel), List.mem_of_getElem? (i := 999) (by decide +kernel)⟩
theorem lw_p56 : lw_okq (⟨"NobodyJoinsModel", "areTwo", "(II)Z"⟩, 23) := ⟨⟨by decide +kernel, by decide +kernel⟩, List.mem_of_getElem? (i := 720) (by decide +kernel), List.mem_of_getElem? (i := 1006) (by decide +kernel), List.mem_of_getElem? (i := 1007) (by decide +kernel)⟩
theorem lw_p57 : lw_okq (⟨"NobodyJoinsModel", "doGrudge", "(II)I"⟩, 23) := ⟨⟨by decide +kernel, by decide +kernel⟩, List.mem_of_getElem? (i := 720) (by decide +kernel), List.mem_of_getElem? (i := 1010) (by decide +kernel), List.mem_of_getElem? (i := 1011) (by decide +kernel)⟩
theorem lw_p58 : lw_okq (⟨"NobodyJoinsModel", "copyClub", "(II)V"⟩, 23) := ⟨⟨by decide +kernel, by decide +kernel⟩, List.mem_of_getElem? (i := 720) (by decide +kernel), List.mem_of_getElem? (i := 1023) (by decide +kernel), List.mem_of_getElem? (i := 1024) (by decide +kernel)⟩
theorem lw_p59 : lw_okq (⟨"NobodyJoinsModel", "layOuts", "()V"⟩, 23) := ⟨⟨by decide +kernel, by decide +kernel⟩, List.mem_of_getElem? (i := 720) (by decide +kernel), List.mem_of_getElem? (i := 1051) (by decide +kernel), List.mem_of_getElem? (i := 1052) (by decide +kernel)⟩
theorem lw_p60 : lw_okq (⟨"NobodyJoinsModel", "tellMany", "(J)I"⟩, 23) := ⟨⟨by decide +kernel, by decide +kernel⟩, List.mem_of_getElem? (i := 720) (by decide +kernel), List.mem_of_getElem? (i := 1059) (by decide +kernel), List.mem_of_getElem? (i := 1060) (by decide +kernel)⟩
theorem lw_p61 : lw_okq (⟨"NobodyJoinsModel", "noRow", "(II)I"⟩, 23) := ⟨⟨by decide +kernel, by decide +kernel⟩, List.mem_of_getElem? (i := 720) (by decide +kernel), List.mem_of_getElem? (i := 1075) (by decide +kernel), List.mem_of_getElem? (i := 1076) (by decide +kernel)⟩
theorem lw_p62 : lw_okq (⟨"NobodyJoinsModel", "isGrudge", "(I)Z"⟩, 23) := ⟨⟨by decide +kernel, by decide +kernel⟩, List.mem_of_getElem? (i := 720) (by decide +kernel), List.mem_of_getElem? (i := 1087) (by decide +kernel), List.mem_of_getElem? (i := 1088) (by decide +kernel)⟩
theorem lw_p63 : lw_okq (⟨"NobodyJoinsModel", "turnLike", "(I)V"⟩, 23) := ⟨⟨by decide +kernel, by decide +kernel⟩, List.mem_of_getElem? (i := 720) (by decide +kernel), List.mem_of_getElem? (i := 1091) (by decide +kernel), List.mem_of_getElem? (i := 1092) (by decide +kernel)⟩
def lw_privs_4 : List (MethodName × Nat) := [(⟨"NobodyJoinsModel", "isAgainst", "(III)Z"⟩, 23), (⟨"NobodyJoinsModel", "yesFor", "(II)I"⟩, 23), (⟨"NobodyJoinsModel", "votesOf", "(I)I"⟩, 23), (⟨"NobodyJoinsModel", "doTurn", "(I)I"⟩, 23), (⟨"NobodyJoinsModel", "keepPast", "()V"⟩, 23), (⟨"NobodyJoinsModel", "mayJoin", "(I)Z"⟩, 23), (⟨"NobodyJoinsModel", "isIn", "(I)Z"⟩, 23), (⟨"NobodyJoinsModel", "doFee", "()I"⟩, 23), (⟨"NobodyJoinsModel", "areTwo", "(II)Z"⟩, 23), (⟨"NobodyJoinsModel", "doGrudge", "(II)I"⟩, 23), (⟨"NobodyJoinsModel", "copyClub", "(II)V"⟩, 23), (⟨"NobodyJoinsModel", "layOuts", "()V"⟩, 23), (⟨"NobodyJoinsModel", "tellMany", "(J)I"⟩, 23), (⟨"NobodyJoinsModel", "noRow", "(II)I"⟩, 23), (⟨"NobodyJoinsModel", "isGrudge", "(I)Z"⟩, 23), (⟨"NobodyJoinsModel", "turnLike", "(I)V"⟩, 23)]
theorem lw_r4 : ∀ q ∈ lw_privs_4, lw_okq q := List.forall_mem_cons.mpr ⟨lw_p48, List.forall_mem_cons.mpr ⟨lw_p49, List.forall_mem_cons.mpr ⟨lw_p50, List.forall_mem_cons.mpr ⟨lw_p51, List.forall_mem_cons.mpr ⟨lw_p52, List.forall_mem_cons.mpr ⟨lw_p53, List.forall_mem_cons.mpr ⟨lw_p54, List.forall_mem_cons.mpr ⟨lw_p55, List.forall_mem_cons.mpr ⟨lw_p56, List.forall_mem_cons.mpr ⟨lw_p57, List.forall_mem_cons.mpr ⟨lw_p58, List.forall_mem_cons.mpr ⟨lw_p59, List.forall_mem_cons.mpr ⟨lw_p60, List.forall_mem_cons.mpr ⟨lw_p61, List.forall_mem_cons.mpr ⟨lw_p62, List.forall_mem_cons.mpr ⟨lw_p63, fun _ h => absurd h List.not_mem_nil⟩⟩⟩⟩⟩⟩⟩⟩⟩⟩⟩⟩⟩⟩⟩⟩
theorem lw_p64 : lw_okq (⟨"NobodyJoinsModel", "tellParts", "(JJ)I"⟩, 23) := ⟨⟨by decide +kernel, by decide +kernel⟩, List.mem_of_getElem? (i := 720) (by decide +kernel), List.mem_of_getElem? (i := 1102) (by decide +kernel), List.mem_of_getElem? (i := 1103) (by decide +kernel)⟩
theorem lw_p65 : lw_okq (⟨"NobodyJoinsModel", "shareOf", "(I)I"⟩, 23) := ⟨⟨by decide +kernel, by decide +kernel⟩, List.mem_of_getElem? (i := 720) (by decide +kernel), List.mem_of_getElem? (i := 1110) (by decide +kernel), List.mem_of_getElem? (i := 1111) (by decide +kernel)⟩
theorem lw_p66 : lw_okq (⟨"NobodyJoinsModel", "likings", "(II)I"⟩, 23) := ⟨⟨by decide +kernel, by decide +kernel⟩, List.mem_of_getElem? (i := 720) (by decide +kernel), List.mem_of_getElem? (i := 1126) (by decide +kernel), List.mem_of_getElem? (i := 1127) (by decide +kernel)⟩
theorem lw_p67 : lw_okq (⟨"NobodyJoinsModel", "countOf", "(I)I"⟩, 23) := ⟨⟨by decide +kernel, by decide +kernel⟩, List.mem_of_getElem? (i := 720) (by decide +kernel), List.mem_of_getElem? (i := 1161) (by decide +kernel), List.mem_of_getElem? (i := 1162) (by decide +kernel)⟩
theorem lw_p68 : lw_okq (⟨"NobodyJoinsModel", "presidents", "()I"⟩, 23) := ⟨⟨by decide +kernel, by decide +kernel⟩, List.mem_of_getElem? (i := 720) (by decide +kernel), List.mem_of_getElem? (i := 1165) (by decide +kernel), List.mem_of_getElem? (i := 1166) (by decide +kernel)⟩
theorem lw_p69 : lw_okq (⟨"NobodyJoinsModel", "thereOf", "(I)I"⟩, 23) := ⟨⟨by decide +kernel, by decide +kernel⟩, List.mem_of_getElem? (i := 720) (by decide +kernel), List.mem_of_getElem? (i := 1169) (by decide +kernel), List.mem_of_getElem? (i := 1170) (by decide +kernel)⟩
def lw_privs_5 : List (MethodName × Nat) := [(⟨"NobodyJoinsModel", "tellParts", "(JJ)I"⟩, 23), (⟨"NobodyJoinsModel", "shareOf", "(I)I"⟩, 23), (⟨"NobodyJoinsModel", "likings", "(II)I"⟩, 23), (⟨"NobodyJoinsModel", "countOf", "(I)I"⟩, 23), (⟨"NobodyJoinsModel", "presidents", "()I"⟩, 23), (⟨"NobodyJoinsModel", "thereOf", "(I)I"⟩, 23)]
theorem lw_r5 : ∀ q ∈ lw_privs_5, lw_okq q := List.forall_mem_cons.mpr ⟨lw_p64, List.forall_mem_cons.mpr ⟨lw_p65, List.forall_mem_cons.mpr ⟨lw_p66, List.forall_mem_cons.mpr ⟨lw_p67, List.forall_mem_cons.mpr ⟨lw_p68, List.forall_mem_cons.mpr ⟨lw_p69, fun _ h => absurd h List.not_mem_nil⟩⟩⟩⟩⟩⟩
def lw_privs : List (MethodName × Nat) := lw_privs_1 ++ (lw_privs_2 ++ (lw_privs_3 ++ (lw_privs_4 ++ (lw_privs_5))))
def lw_tbl : List Cond := k2_sels lw_privs ++ tables_1
theorem lw_privs_ok : ∀ q ∈ lw_privs, lw_okq q := by
  show ∀ q ∈ lw_privs_1 ++ (lw_privs_2 ++ (lw_privs_3 ++ (lw_privs_4 ++ (lw_privs_5)))), lw_okq q
  exact List.forall_mem_append.mpr ⟨lw_r1, List.forall_mem_append.mpr ⟨lw_r2, List.forall_mem_append.mpr ⟨lw_r3, List.forall_mem_append.mpr ⟨lw_r4, lw_r5⟩⟩⟩⟩
end
section
/-! V-layer: refs are positions in a list of cells; nj_V hides the machine's plumbing -/
def nj_T0 : List Cond := lw_tbl.filter goodWord
theorem nj_T0_in {w : Cond} (h : w ∈ lw_tbl) (hg : goodWord w = true) : w ∈ nj_T0 := List.mem_filter.mpr ⟨h, hg⟩
theorem nj_T0_sub : ∀ w ∈ nj_T0, w ∈ lw_tbl := fun _ h => (List.mem_filter.mp h).1
theorem nj_T0_good : ∀ w ∈ nj_T0, goodWord w = true := fun _ h => (List.mem_filter.mp h).2
theorem nj_goodIn {ws : List Cond} (h : ∀ w ∈ ws, w ∈ nj_T0) : GoodIn nj_T0 ws := fun w hw => ⟨h w hw, good_of_word (nj_T0_good w (h w hw))⟩
-- positions and addresses
def nj_pv (ad : Nat → Nat) (v : Value) : Value := match v with
  | .ref k => .ref (ad k)
  | w => w
abbrev nj_AR : Type := (Nat → Int32) ⊕ (Nat → Int64) ⊕ (Nat → UInt32) ⊕ (Nat → UInt64) ⊕ (Nat → Option Nat)
def nj_px (ad : Nat → Nat) (x : nj_AR) : nj_AR := match x with
  | .inl f => .inl f
  | .inr (.inl f) => .inr (.inl f)
  | .inr (.inr (.inl f)) => .inr (.inr (.inl f))
  | .inr (.inr (.inr (.inl f))) => .inr (.inr (.inr (.inl f)))
  | .inr (.inr (.inr (.inr f))) => .inr (.inr (.inr (.inr (fun k => (f k).map ad))))
def nj_pe (ad : Nat → Nat) (dT : Nat → ClassId) (e : va_E) : va_E := match e with
  | .inl a => .inl (dT a.1, a.2.1, nj_px ad a.2.2)
  | .inr o => .inr (o.1, o.2.map (nj_pv ad))
def nj_pw (ad : Nat → Nat) (dT : Nat → ClassId) (hp : List va_E) : va_W := hp.mapIdx (fun k e => (ad k, nj_pe ad dT e))
theorem nj_pw_at {ad : Nat → Nat} {dT : Nat → ClassId} {hp : List va_E} {k : Nat} {e : va_E} (h : hp[k]? = some e) : (nj_pw ad dT hp)[k]? = some (ad k, nj_pe ad dT e) := by
  simp [nj_pw, List.getElem?_mapIdx, h]
theorem nj_pw_of {ad : Nat → Nat} {dT : Nat → ClassId} {hp : List va_E} {k : Nat} {q : Nat × va_E} (h : (nj_pw ad dT hp)[k]? = some q) : ∃ e, hp[k]? = some e ∧ q = (ad k, nj_pe ad dT e) := by
  rw [nj_pw, List.getElem?_mapIdx] at h
  cases he : hp[k]? with
  | none => rw [he] at h; cases h
  | some e => rw [he] at h; exact ⟨e, rfl, (Option.some.inj h).symm⟩
theorem nj_pw_set {ad : Nat → Nat} {dT : Nat → ClassId} {hp : List va_E} {k : Nat} {e : va_E} : (nj_pw ad dT hp).set k (ad k, nj_pe ad dT e) = nj_pw ad dT (hp.set k e) := by
  apply List.ext_getElem?
  intro i
  rw [List.getElem?_set]
  by_cases hk : k = i
  · subst hk
    rw [if_pos rfl]
    by_cases hl : k < hp.length
    · rw [nj_pw_at (List.getElem?_set_self hl), if_pos (by simpa [nj_pw] using hl)]
    · rw [if_neg (by simpa [nj_pw] using hl)]
      simp [nj_pw, List.getElem?_mapIdx, List.getElem?_set, hl]
  · rw [if_neg hk]
    simp [nj_pw, List.getElem?_mapIdx, List.getElem?_set, hk]
theorem nj_pw_len (ad : Nat → Nat) (dT : Nat → ClassId) (hp : List va_E) : (nj_pw ad dT hp).length = hp.length := by simp [nj_pw]
/-- apartness is of the addresses alone -/
theorem nj_D_of {A B : Nat → Prop} {w w' : va_W} (h : va_D A w) (he : ∀ (k : Nat) (q : Nat × va_E), w'[k]? = some q → ∃ q0, w[k]? = some q0 ∧ q0.1 = q.1) (hAB : ∀ q, A q → B q) : va_D B w' := by
  refine ⟨fun i j x y hi hj hxy => ?_, fun k q hk => ?_⟩
  · obtain ⟨x0, h1, h2⟩ := he i x hi
    obtain ⟨y0, h3, h4⟩ := he j y hj
    exact h.1 i j x0 y0 h1 h3 (h2.trans (hxy.trans h4.symm))
  · obtain ⟨q0, h1, h2⟩ := he k q hk
    rw [← h2]
    exact hAB _ (h.2 k q0 h1)
-- the locals
def nj_lm (ad : Nat → Nat) (n : Nat) (lm : Array Slot) (ls : List (Option Value)) : Prop := lm.size = n ∧ lv_wf lm ∧ ∀ (j : Nat) (v : Value), ls[j]? = some (some v) → lm[j]? = some (.val (nj_pv ad v))
def nj_k2 (o : Option Value) : Option Value := match o with
  | some (.long _) => none
  | some (.double _) => none
  | w => w
def nj_s1 : List (Option Value) → Nat → Value → List (Option Value)
  | [], _, _ => []
  | _ :: r, 0, v => some v :: r
  | o :: r, 1, v => nj_k2 o :: nj_s1 r 0 v
  | o :: r, n + 2, v => o :: nj_s1 r (n + 1) v
def nj_s2 : List (Option Value) → Nat → Value → List (Option Value)
  | [], _, _ => []
  | _ :: r, 0, v => some v :: (match r with | [] => [] | _ :: r' => none :: r')
  | o :: r, 1, v => nj_k2 o :: nj_s2 r 0 v
  | o :: r, n + 2, v => o :: nj_s2 r (n + 1) v
theorem nj_k2_of {o : Option Value} {v : Value} (h : nj_k2 o = some v) : o = some v ∧ ¬ v.category = 2 := by
  cases o with
  | none => cases h
  | some w => cases w <;> simp_all [nj_k2, Value.category] <;> (first | (subst h; simp [Value.category]) | skip)
theorem nj_s1_of : ∀ (ls : List (Option Value)) (i : Nat) (v : Value) (j : Nat) (w : Value), (nj_s1 ls i v)[j]? = some (some w) → (j = i ∧ w = v) ∨ (j ≠ i ∧ ls[j]? = some (some w) ∧ (j + 1 = i → ¬ w.category = 2))
  | [], i, v, j, w, h => by simp [nj_s1] at h
  | o :: r, 0, v, j, w, h => by
    cases j with
    | zero => simp [nj_s1] at h; exact Or.inl ⟨rfl, h.symm⟩
    | succ j => simp [nj_s1] at h; exact Or.inr ⟨by omega, by simpa using h, by omega⟩
  | o :: r, 1, v, j, w, h => by
    cases j with
    | zero =>
      simp only [nj_s1, List.getElem?_cons_zero, Option.some.injEq] at h
      obtain ⟨h1, h2⟩ := nj_k2_of h
      exact Or.inr ⟨by omega, by simp [h1], fun _ => h2⟩
    | succ j =>
      simp only [nj_s1, List.getElem?_cons_succ] at h
      rcases nj_s1_of r 0 v j w h with ⟨a, b⟩ | ⟨a, b, c⟩
      · exact Or.inl ⟨by omega, b⟩
      · exact Or.inr ⟨by omega, by simpa using b, by omega⟩
  | o :: r, n + 2, v, j, w, h => by
    cases j with
    | zero =>
      simp only [nj_s1, List.getElem?_cons_zero, Option.some.injEq] at h
      exact Or.inr ⟨by omega, by simp [h], by omega⟩
    | succ j =>
      simp only [nj_s1, List.getElem?_cons_succ] at h
      rcases nj_s1_of r (n + 1) v j w h with ⟨a, b⟩ | ⟨a, b, c⟩
      · exact Or.inl ⟨by omega, b⟩
      · exact Or.inr ⟨by omega, by simpa using b, fun q => c (by omega)⟩
theorem nj_s2_of : ∀ (ls : List (Option Value)) (i : Nat) (v : Value) (j : Nat) (w : Value), (nj_s2 ls i v)[j]? = some (some w) → (j = i ∧ w = v) ∨ (j ≠ i ∧ j ≠ i + 1 ∧ ls[j]? = some (some w) ∧ (j + 1 = i → ¬ w.category = 2))
  | [], i, v, j, w, h => by simp [nj_s2] at h
  | [o], 0, v, j, w, h => by
    cases j with
    | zero => simp [nj_s2] at h; exact Or.inl ⟨rfl, h.symm⟩
    | succ j => simp [nj_s2] at h
  | o :: o2 :: r, 0, v, j, w, h => by
    cases j with
    | zero => simp [nj_s2] at h; exact Or.inl ⟨rfl, h.symm⟩
    | succ j =>
      cases j with
      | zero => simp [nj_s2] at h
      | succ j => simp [nj_s2] at h; exact Or.inr ⟨by omega, by omega, by simpa using h, by omega⟩
  | o :: r, 1, v, j, w, h => by
    cases j with
    | zero =>
      simp only [nj_s2, List.getElem?_cons_zero, Option.some.injEq] at h
      obtain ⟨h1, h2⟩ := nj_k2_of h
      exact Or.inr ⟨by omega, by omega, by simp [h1], fun _ => h2⟩
    | succ j =>
      simp only [nj_s2, List.getElem?_cons_succ] at h
      rcases nj_s2_of r 0 v j w h with ⟨a, b⟩ | ⟨a, a2, b, c⟩
      · exact Or.inl ⟨by omega, b⟩
      · exact Or.inr ⟨by omega, by omega, by simpa using b, by omega⟩
  | o :: r, n + 2, v, j, w, h => by
    cases j with
    | zero =>
      simp only [nj_s2, List.getElem?_cons_zero, Option.some.injEq] at h
      exact Or.inr ⟨by omega, by omega, by simp [h], by omega⟩
    | succ j =>
      simp only [nj_s2, List.getElem?_cons_succ] at h
      rcases nj_s2_of r (n + 1) v j w h with ⟨a, b⟩ | ⟨a, a2, b, c⟩
      · exact Or.inl ⟨by omega, b⟩
      · exact Or.inr ⟨by omega, by omega, by simpa using b, fun q => c (by omega)⟩
theorem nj_cat (ad : Nat → Nat) (v : Value) : (nj_pv ad v).category = v.category := by cases v <;> rfl
/-- the locals as the kit's list -/
def nj_pl (ad : Nat → Nat) (ls : List (Option Value)) : List (Nat × Value) := (ls.mapIdx (fun j o => (j, o))).filterMap (fun q => q.2.map (fun v => (q.1, nj_pv ad v)))
theorem nj_pl_in {ad : Nat → Nat} {ls : List (Option Value)} {j : Nat} {v : Value} (h : ls[j]? = some (some v)) : (j, nj_pv ad v) ∈ nj_pl ad ls := by
  refine List.mem_filterMap.mpr ⟨(j, some v), ?_, rfl⟩
  exact List.mem_of_getElem? (i := j) (by simp [List.getElem?_mapIdx, h])
theorem nj_pl_of {ad : Nat → Nat} {ls : List (Option Value)} {q : Nat × Value} (h : q ∈ nj_pl ad ls) : ∃ v, ls[q.1]? = some (some v) ∧ q.2 = nj_pv ad v := by
  obtain ⟨⟨j, o⟩, h1, h2⟩ := List.mem_filterMap.mp h
  obtain ⟨i, hi⟩ := List.getElem?_of_mem h1
  rw [List.getElem?_mapIdx] at hi
  cases hl : ls[i]? with
  | none => rw [hl] at hi; cases hi
  | some o' =>
    rw [hl] at hi
    cases hi
    cases o with
    | none => cases h2
    | some v => cases h2; exact ⟨v, hl, rfl⟩
theorem nj_lm_has {ad : Nat → Nat} {n : Nat} {lm : Array Slot} {ls : List (Option Value)} (h : nj_lm ad n lm ls) : lv_has lm n (nj_pl ad ls) := by
  refine ⟨h.1, h.2.1, fun q hq => ?_⟩
  obtain ⟨v, h1, h2⟩ := nj_pl_of hq
  rw [h2]
  exact h.2.2 q.1 v h1
theorem nj_lm_s1 {ad : Nat → Nat} {n i : Nat} {lm : Array Slot} {ls : List (Option Value)} {v : Value} (h : lv_has lm n ((i, nj_pv ad v) :: (nj_pl ad ls).filter (fun q => !(q.1 == i) && !(q.1 + 1 == i && q.2.category == 2)))) : nj_lm ad n lm (nj_s1 ls i v) := by
  refine ⟨h.1, h.2.1, fun j w hw => ?_⟩
  rcases nj_s1_of ls i v j w hw with ⟨a, b⟩ | ⟨a, b, c⟩
  · subst a; subst b
    exact h.2.2 _ List.mem_cons_self
  · refine h.2.2 (j, nj_pv ad w) (List.mem_cons_of_mem _ (List.mem_filter.mpr ⟨nj_pl_in b, ?_⟩))
    have hc := nj_cat ad w
    by_cases hj : j + 1 = i
    · simp [a, hc, c hj]
    · simp [a, hj]
theorem nj_lm_s2 {ad : Nat → Nat} {n i : Nat} {lm : Array Slot} {ls : List (Option Value)} {v : Value} (h : lv_has lm n ((i, nj_pv ad v) :: (nj_pl ad ls).filter (fun q => !(q.1 == i) && (!(q.1 == i + 1) && !(q.1 + 1 == i && q.2.category == 2))))) : nj_lm ad n lm (nj_s2 ls i v) := by
  refine ⟨h.1, h.2.1, fun j w hw => ?_⟩
  rcases nj_s2_of ls i v j w hw with ⟨a, b⟩ | ⟨a, a2, b, c⟩
  · subst a; subst b
    exact h.2.2 _ List.mem_cons_self
  · refine h.2.2 (j, nj_pv ad w) (List.mem_cons_of_mem _ (List.mem_filter.mpr ⟨nj_pl_in b, ?_⟩))
    have hc := nj_cat ad w
    by_cases hj : j + 1 = i
    · simp [a, a2, hc, c hj]
    · simp [a, a2, hj]
end
section
def nj_RClub : String := "NobodyJoins$Club"
def nj_FClub : u_T := fun k => match k with
  | 0 => ("NobodyJoins$Club", "kinds", "[I", true)
  | 1 => ("NobodyJoins$Club", "pence", "[I", true)
  | 2 => ("NobodyJoins$Club", "likedBy", "[I", true)
  | 3 => ("NobodyJoins$Club", "deeds", "[I", true)
  | 4 => ("NobodyJoins$Club", "children", "I", false)
  | 5 => ("NobodyJoins$Club", "rule", "I", false)
  | 6 => ("NobodyJoins$Club", "in", "I", false)
  | 7 => ("NobodyJoins$Club", "tin", "I", false)
  | _ => ("NobodyJoins$Club", "deedCount", "I", false)
def nj_tClub : Nat → FieldType := fun k => match k with
  | 0 => (.array .int)
  | 1 => (.array .int)
  | 2 => (.array .int)
  | 3 => (.array .int)
  | 4 => .int
  | 5 => .int
  | 6 => .int
  | 7 => .int
  | _ => .int
def nj_ROrders : String := "NobodyJoins$Orders"
def nj_FOrders : u_T := fun k => match k with
  | 0 => ("NobodyJoins$Orders", "club", "LNobodyJoins$Club;", true)
  | _ => ("NobodyJoins$Orders", "ofSet", "[I", true)
def nj_tOrders : Nat → FieldType := fun k => match k with
  | 0 => (.object "NobodyJoins$Club")
  | _ => (.array .int)
def nj_RReader : String := "NobodyJoins$Reader"
def nj_FReader : u_T := fun k => match k with
  | 0 => ("NobodyJoins$Reader", "place", "I", false)
  | _ => ("NobodyJoins$Reader", "pairs", "I", false)
def nj_tReader : Nat → FieldType := fun k => match k with
  | 0 => .int
  | _ => .int
def nj_RRow : String := "NobodyJoins$Row"
def nj_FRow : u_T := fun k => match k with
  | 0 => ("NobodyJoins$Row", "places", "[I", true)
  | _ => ("NobodyJoins$Row", "size", "I", false)
def nj_tRow : Nat → FieldType := fun k => match k with
  | 0 => (.array .int)
  | _ => .int
def nj_RText : String := "NobodyJoins$Text"
def nj_FText : u_T := fun k => match k with
  | 0 => ("NobodyJoins$Text", "bytes", "[B", true)
  | _ => ("NobodyJoins$Text", "size", "I", false)
def nj_tText : Nat → FieldType := fun k => match k with
  | 0 => (.array .byte)
  | _ => .int
def nj_RNj : String := "NobodyJoins"
def nj_FNj : u_T := fun k => match k with
  | 0 => ("NobodyJoins", "rows", "[LNobodyJoins$Row;", true)
  | 1 => ("NobodyJoins", "texts", "[LNobodyJoins$Text;", true)
  | 2 => ("NobodyJoins", "club", "LNobodyJoins$Club;", true)
  | 3 => ("NobodyJoins", "draft", "LNobodyJoins$Club;", true)
  | 4 => ("NobodyJoins", "kept", "[LNobodyJoins$Club;", true)
  | 5 => ("NobodyJoins", "reader", "LNobodyJoins$Reader;", true)
  | 6 => ("NobodyJoins", "orders", "LNobodyJoins$Orders;", true)
  | 7 => ("NobodyJoins", "findingCounts", "[I", true)
  | 8 => ("NobodyJoins", "latestFinding", "I", false)
  | 9 => ("NobodyJoins", "answer", "I", false)
  | 10 => ("NobodyJoins", "upperNumber", "J", false)
  | _ => ("NobodyJoins", "lowerNumber", "J", false)
def nj_tNj : Nat → FieldType := fun k => match k with
  | 0 => (.array (.object "NobodyJoins$Row"))
  | 1 => (.array (.object "NobodyJoins$Text"))
  | 2 => (.object "NobodyJoins$Club")
  | 3 => (.object "NobodyJoins$Club")
  | 4 => (.array (.object "NobodyJoins$Club"))
  | 5 => (.object "NobodyJoins$Reader")
  | 6 => (.object "NobodyJoins$Orders")
  | 7 => (.array .int)
  | 8 => .int
  | 9 => .int
  | 10 => .long
  | _ => .long
def nj_RMd : String := "NobodyJoinsModel"
def nj_FMd : u_T := fun k => match k with
  | 0 => ("NobodyJoinsModel", "row", "[I", true)
  | 1 => ("NobodyJoinsModel", "children", "I", false)
  | 2 => ("NobodyJoinsModel", "kinds", "[I", true)
  | 3 => ("NobodyJoinsModel", "sizes", "[I", true)
  | 4 => ("NobodyJoinsModel", "items", "[I", true)
  | 5 => ("NobodyJoinsModel", "lengths", "[I", true)
  | 6 => ("NobodyJoinsModel", "bytes", "[I", true)
  | 7 => ("NobodyJoinsModel", "asked", "I", false)
  | 8 => ("NobodyJoinsModel", "upper", "J", false)
  | 9 => ("NobodyJoinsModel", "lower", "J", false)
  | 10 => ("NobodyJoinsModel", "finding", "I", false)
  | 11 => ("NobodyJoinsModel", "findings", "[I", true)
  | 12 => ("NobodyJoinsModel", "from", "I", false)
  | 13 => ("NobodyJoinsModel", "place", "I", false)
  | 14 => ("NobodyJoinsModel", "end", "I", false)
  | 15 => ("NobodyJoinsModel", "readRule", "I", false)
  | 16 => ("NobodyJoinsModel", "readChildren", "[I", true)
  | 17 => ("NobodyJoinsModel", "readMany", "I", false)
  | 18 => ("NobodyJoinsModel", "readLikes", "[I", true)
  | 19 => ("NobodyJoinsModel", "readPairs", "I", false)
  | 20 => ("NobodyJoinsModel", "outOf", "[I", true)
  | 21 => ("NobodyJoinsModel", "longer", "[I", true)
  | _ => ("NobodyJoinsModel", "ways", "[J", true)
def nj_tMd : Nat → FieldType := fun k => match k with
  | 0 => (.array .int)
  | 1 => .int
  | 2 => (.array .int)
  | 3 => (.array .int)
  | 4 => (.array .int)
  | 5 => (.array .int)
  | 6 => (.array .int)
  | 7 => .int
  | 8 => .long
  | 9 => .long
  | 10 => .int
  | 11 => (.array .int)
  | 12 => .int
  | 13 => .int
  | 14 => .int
  | 15 => .int
  | 16 => (.array .int)
  | 17 => .int
  | 18 => (.array .int)
  | 19 => .int
  | 20 => (.array .int)
  | 21 => (.array .int)
  | _ => (.array .long)
abbrev nj_cls : List vw_C := [(nj_RClub, nj_FClub, 9), (nj_ROrders, nj_FOrders, 2), (nj_RReader, nj_FReader, 2), (nj_RRow, nj_FRow, 2), (nj_RText, nj_FText, 2), (nj_RNj, nj_FNj, 12), (nj_RMd, nj_FMd, 23)]
def nj_CK (q : vw_C) : Prop := (∀ w ∈ u_ws q.1 q.2.1 q.2.2, w ∈ nj_T0) ∧ (∃ ty0 : Nat → FieldType, ∀ k, k < q.2.2 → parseFieldDescriptor (q.2.1 k).2.2.1 = some (ty0 k)) ∧ ∀ a, a < q.2.2 → ∀ b, b < q.2.2 → a ≠ b → (q.2.1 a).2.1 ≠ (q.2.1 b).2.1
theorem nj_ckClub : nj_CK (nj_RClub, nj_FClub, 9) := ⟨fun w hw => nj_T0_in ((by decide +kernel : ∀ w ∈ u_ws nj_RClub nj_FClub 9, w ∈ lw_tbl) w hw) ((by decide +kernel : ∀ w ∈ u_ws nj_RClub nj_FClub 9, goodWord w = true) w hw), ⟨nj_tClub, (by decide +kernel : ∀ k, k < 9 → parseFieldDescriptor (nj_FClub k).2.2.1 = some (nj_tClub k))⟩, (by decide +kernel : ∀ a, a < 9 → ∀ b, b < 9 → a ≠ b → (nj_FClub a).2.1 ≠ (nj_FClub b).2.1)⟩
theorem nj_ckOrders : nj_CK (nj_ROrders, nj_FOrders, 2) := ⟨fun w hw => nj_T0_in ((by decide +kernel : ∀ w ∈ u_ws nj_ROrders nj_FOrders 2, w ∈ lw_tbl) w hw) ((by decide +kernel : ∀ w ∈ u_ws nj_ROrders nj_FOrders 2, goodWord w = true) w hw), ⟨nj_tOrders, (by decide +kernel : ∀ k, k < 2 → parseFieldDescriptor (nj_FOrders k).2.2.1 = some (nj_tOrders k))⟩, (by decide +kernel : ∀ a, a < 2 → ∀ b, b < 2 → a ≠ b → (nj_FOrders a).2.1 ≠ (nj_FOrders b).2.1)⟩
theorem nj_ckReader : nj_CK (nj_RReader, nj_FReader, 2) := ⟨fun w hw => nj_T0_in ((by decide +kernel : ∀ w ∈ u_ws nj_RReader nj_FReader 2, w ∈ lw_tbl) w hw) ((by decide +kernel : ∀ w ∈ u_ws nj_RReader nj_FReader 2, goodWord w = true) w hw), ⟨nj_tReader, (by decide +kernel : ∀ k, k < 2 → parseFieldDescriptor (nj_FReader k).2.2.1 = some (nj_tReader k))⟩, (by decide +kernel : ∀ a, a < 2 → ∀ b, b < 2 → a ≠ b → (nj_FReader a).2.1 ≠ (nj_FReader b).2.1)⟩
theorem nj_ckRow : nj_CK (nj_RRow, nj_FRow, 2) := ⟨fun w hw => nj_T0_in ((by decide +kernel : ∀ w ∈ u_ws nj_RRow nj_FRow 2, w ∈ lw_tbl) w hw) ((by decide +kernel : ∀ w ∈ u_ws nj_RRow nj_FRow 2, goodWord w = true) w hw), ⟨nj_tRow, (by decide +kernel : ∀ k, k < 2 → parseFieldDescriptor (nj_FRow k).2.2.1 = some (nj_tRow k))⟩, (by decide +kernel : ∀ a, a < 2 → ∀ b, b < 2 → a ≠ b → (nj_FRow a).2.1 ≠ (nj_FRow b).2.1)⟩
theorem nj_ckText : nj_CK (nj_RText, nj_FText, 2) := ⟨fun w hw => nj_T0_in ((by decide +kernel : ∀ w ∈ u_ws nj_RText nj_FText 2, w ∈ lw_tbl) w hw) ((by decide +kernel : ∀ w ∈ u_ws nj_RText nj_FText 2, goodWord w = true) w hw), ⟨nj_tText, (by decide +kernel : ∀ k, k < 2 → parseFieldDescriptor (nj_FText k).2.2.1 = some (nj_tText k))⟩, (by decide +kernel : ∀ a, a < 2 → ∀ b, b < 2 → a ≠ b → (nj_FText a).2.1 ≠ (nj_FText b).2.1)⟩
theorem nj_ckNj : nj_CK (nj_RNj, nj_FNj, 12) := ⟨fun w hw => nj_T0_in ((by decide +kernel : ∀ w ∈ u_ws nj_RNj nj_FNj 12, w ∈ lw_tbl) w hw) ((by decide +kernel : ∀ w ∈ u_ws nj_RNj nj_FNj 12, goodWord w = true) w hw), ⟨nj_tNj, (by decide +kernel : ∀ k, k < 12 → parseFieldDescriptor (nj_FNj k).2.2.1 = some (nj_tNj k))⟩, (by decide +kernel : ∀ a, a < 12 → ∀ b, b < 12 → a ≠ b → (nj_FNj a).2.1 ≠ (nj_FNj b).2.1)⟩
theorem nj_ckMd : nj_CK (nj_RMd, nj_FMd, 23) := ⟨fun w hw => nj_T0_in ((by decide +kernel : ∀ w ∈ u_ws nj_RMd nj_FMd 23, w ∈ lw_tbl) w hw) ((by decide +kernel : ∀ w ∈ u_ws nj_RMd nj_FMd 23, goodWord w = true) w hw), ⟨nj_tMd, (by decide +kernel : ∀ k, k < 23 → parseFieldDescriptor (nj_FMd k).2.2.1 = some (nj_tMd k))⟩, (by decide +kernel : ∀ a, a < 23 → ∀ b, b < 23 → a ≠ b → (nj_FMd a).2.1 ≠ (nj_FMd b).2.1)⟩
theorem nj_cls_ok : ∀ q ∈ nj_cls, nj_CK q := by
  intro q hq
  simp only [nj_cls, List.mem_cons, List.not_mem_nil, or_false] at hq
  rcases hq with rfl | rfl | rfl | rfl | rfl | rfl | rfl
  · exact nj_ckClub
  · exact nj_ckOrders
  · exact nj_ckReader
  · exact nj_ckRow
  · exact nj_ckText
  · exact nj_ckNj
  · exact nj_ckMd
def nj_tys (dT : Nat → ClassId) : List (ClassId × FieldType) := [(dT 0, .int), (dT 1, .long), (dT 2, .byte), (dT 3, .object nj_RRow), (dT 4, .object nj_RText), (dT 5, .object nj_RClub)]
def nj_kl (j : Nat) : Int32 := [109, 112, 103, 116, 102, 115].getD j 0
def nj_kv (j : Nat) : Int32 := [1, 2, 1, 1, 3, 0].getD j 0
def nj_fa (j : Nat) : Int32 := [1, 1, 2, 6, 24, 120, 720].getD j 0
/-- the three static rows, that nobody writes -/
def nj_St (sA : Nat → Nat) (A : Nat → Prop) (U : State) (H : Heap) : Prop :=
  (va_Z "NobodyJoins" "KIND_LETTERS" "[C" (.ref (sA 0)) A U H ∧ va_T .char (sA 0) 6 (fun j => .int (nj_kl j)) A U H) ∧
  (va_Z "NobodyJoins" "KIND_VOTES" "[I" (.ref (sA 1)) A U H ∧ va_T .int (sA 1) 6 (fun j => .int (nj_kv j)) A U H) ∧
  (va_Z "NobodyJoins" "FACTORIALS" "[I" (.ref (sA 2)) A U H ∧ va_T .int (sA 2) 7 (fun j => .int (nj_fa j)) A U H)
theorem nj_St.moved {sA : Nat → Nat} {A : Nat → Prop} {u U : State} {H : Heap} (hvm : u.vm.Alike U.vm) (h : nj_St sA A u H) : nj_St sA A U H :=
  ⟨⟨h.1.1.moved hvm, h.1.2.moved hvm⟩, ⟨h.2.1.1.moved hvm, h.2.1.2.moved hvm⟩, ⟨h.2.2.1.moved hvm, h.2.2.2.moved hvm⟩⟩
theorem nj_St.kept {sA : Nat → Nat} {A : Nat → Prop} {U : State} {H H1 : Heap} (h : nj_St sA A U H) (hq : ∀ a : Nat, a < H.size → ¬ A a → H1[a]? = H[a]?) : nj_St sA A U H1 :=
  ⟨⟨h.1.1.kept hq, h.1.2.kept hq⟩, ⟨h.2.1.1.kept hq, h.2.1.2.kept hq⟩, ⟨h.2.2.1.kept hq, h.2.2.2.kept hq⟩⟩
theorem nj_St.narrow {sA : Nat → Nat} {A B : Nat → Prop} {U : State} {H : Heap} (h : nj_St sA A U H) (hAB : ∀ q, B q → A q) : nj_St sA B U H :=
  ⟨⟨h.1.1.narrow hAB, h.1.2.narrow hAB⟩, ⟨h.2.1.1.narrow hAB, h.2.1.2.narrow hAB⟩, ⟨h.2.2.1.narrow hAB, h.2.2.2.narrow hAB⟩⟩
/-- links of nest mates -/
def nj_Ne (U : State) : Prop := va_Nw (.fieldLinkNest "NobodyJoins$Reader" 70 "NobodyJoins" "KIND_LETTERS" "[C" "NobodyJoins") U ∧ va_Nw (.fieldLinkNest "NobodyJoins$Club" 50 "NobodyJoins" "KIND_VOTES" "[I" "NobodyJoins") U ∧ va_Nw (.fieldLinkNest "NobodyJoins$Sums" 20 "NobodyJoins" "FACTORIALS" "[I" "NobodyJoins") U ∧ va_Nw (.methodLinkNest "NobodyJoins" 23 ⟨"NobodyJoins$Club", "<init>", "()V"⟩ "NobodyJoins") U ∧ va_Nw (.methodLinkNest "NobodyJoins" 37 ⟨"NobodyJoins$Reader", "<init>", "()V"⟩ "NobodyJoins") U ∧ va_Nw (.methodLinkNest "NobodyJoins" 69 ⟨"NobodyJoins$Row", "<init>", "()V"⟩ "NobodyJoins") U ∧ va_Nw (.methodLinkNest "NobodyJoins" 70 ⟨"NobodyJoins$Text", "<init>", "()V"⟩ "NobodyJoins") U
theorem nj_Ne.warm {s U : State} (hW : s.WarmedH U.vm) (h : nj_Ne s) : nj_Ne U := by
  obtain ⟨h0, h1, h2, h3, h4, h5, h6⟩ := h
  exact ⟨h0.warmF hW, h1.warmF hW, h2.warmF hW, h3.warmM hW, h4.warmM hW, h5.warmM hW, h6.warmM hW⟩
theorem nj_Ne.same {u U : State} (hv : u.vm = U.vm) (h : nj_Ne u) : nj_Ne U := by
  obtain ⟨h0, h1, h2, h3, h4, h5, h6⟩ := h
  exact ⟨h0.same rfl hv, h1.same rfl hv, h2.same rfl hv, h3.same rfl hv, h4.same rfl hv, h5.same rfl hv, h6.same rfl hv⟩
/-- what every method needs of the machine besides its words -/
def nj_Inv (D : va_G) (dT : Nat → ClassId) (sA : Nat → Nat) (A : Nat → Prop) (U : State) (H : Heap) : Prop := va_K D nj_cls (nj_tys dT) U ∧ nj_Ne U ∧ nj_St sA A U H
abbrev nj_G : Type := (Program × Launch × Env × Room × State × MethodId) × (Array Value × List Frame × Method × Code × (State → Prop)) × (va_G × (Nat → ClassId) × (Nat → Prop) × (Nat → Nat))
def nj_V (G : nj_G) (ad : Nat → Nat) (kc ks pc : Nat) (ls : List (Option Value)) (st : List Value) (hp : List va_E) : Prop :=
  match G with
  | ((p, l, e, R, s, m), (args, below, meth, c, Q), (D, dT, A, sA)) => ∀ (H : Heap) (locs : List Loc) (lm : Array Slot), (∀ j, ad (1000 + j) = sA j) → va_P D nj_cls (nj_pw ad dT hp) H → va_D A (nj_pw ad dT hp) → va_S A s.heap H locs → nj_lm ad c.maxLocals lm ls →
    W p l e R s m args below meth c H locs kc ks Q (F0 m pc lm (st.map (nj_pv ad)))
def nj_C (G : nj_G) (cc : ByteArray) (nL : Nat) (own : String) (rm : Room) : Prop :=
  match G with
  | ((p, l, e, R, s, m), (args, below, meth, c, Q), (D, dT, A, sA)) => p.tables.exec = Jvm.exec ∧ c.code = cc ∧ c.maxLocals = nL ∧ s.vm.findClass own = some m.cls ∧ (∀ w ∈ nj_T0, w.before args s = true) ∧ R = rm ∧ nj_Inv D dT sA A s s.heap ∧ meth.locks = false ∧ ∀ q, s.heap.size ≤ q → A q
-- decode facts, with the next place as a number
def nj_dc (cc : ByteArray) (pc : Nat) (i : Instr) (pc' : Nat) : Prop := ∃ n, decode cc pc = .ok (i, n) ∧ pc + n = pc'
def nj_ic (cc : ByteArray) (pc : Nat) (v : Int32) (pc' : Nat) : Prop := (∃ n, decode cc pc = .ok (.iconst n, 1) ∧ Int32.ofInt n = v ∧ pc + 1 = pc') ∨ (∃ n, decode cc pc = .ok (.bipush n, 2) ∧ (Int8.ofInt n).toInt32 = v ∧ pc + 2 = pc') ∨ (∃ n, decode cc pc = .ok (.sipush n, 3) ∧ (Int16.ofInt n).toInt32 = v ∧ pc + 3 = pc')
def nj_il (cc : ByteArray) (pc i pc' : Nat) : Prop := (∃ k : Fin 4, decode cc pc = .ok (.iload_n k, 1) ∧ (k : Nat) = i ∧ pc + 1 = pc') ∨ (decode cc pc = .ok (.iload i, 2) ∧ pc + 2 = pc')
def nj_ll (cc : ByteArray) (pc i pc' : Nat) : Prop := (∃ k : Fin 4, decode cc pc = .ok (.lload_n k, 1) ∧ (k : Nat) = i ∧ pc + 1 = pc') ∨ (decode cc pc = .ok (.lload i, 2) ∧ pc + 2 = pc')
def nj_al (cc : ByteArray) (pc i pc' : Nat) : Prop := (∃ k : Fin 4, decode cc pc = .ok (.aload_n k, 1) ∧ (k : Nat) = i ∧ pc + 1 = pc') ∨ (decode cc pc = .ok (.aload i, 2) ∧ pc + 2 = pc')
def nj_is (cc : ByteArray) (pc i pc' : Nat) : Prop := (∃ k : Fin 4, decode cc pc = .ok (.istore_n k, 1) ∧ (k : Nat) = i ∧ pc + 1 = pc') ∨ (decode cc pc = .ok (.istore i, 2) ∧ pc + 2 = pc')
def nj_lst (cc : ByteArray) (pc i pc' : Nat) : Prop := (∃ k : Fin 4, decode cc pc = .ok (.lstore_n k, 1) ∧ (k : Nat) = i ∧ pc + 1 = pc') ∨ (decode cc pc = .ok (.lstore i, 2) ∧ pc + 2 = pc')
def nj_as (cc : ByteArray) (pc i pc' : Nat) : Prop := (∃ k : Fin 4, decode cc pc = .ok (.astore_n k, 1) ∧ (k : Nat) = i ∧ pc + 1 = pc') ∨ (decode cc pc = .ok (.astore i, 2) ∧ pc + 2 = pc')
def nj_if (cc : ByteArray) (pc : Nat) (cd : ClassFile.Cond) (tgt pc' : Nat) : Prop := ∃ off : Int, decode cc pc = .ok (.ifCond cd off, 3) ∧ (pc : Int) + off = (tgt : Int) ∧ pc + 3 = pc'
def nj_cm (cc : ByteArray) (pc : Nat) (cd : ClassFile.Cond) (tgt pc' : Nat) : Prop := ∃ off : Int, decode cc pc = .ok (.if_icmp cd off, 3) ∧ (pc : Int) + off = (tgt : Int) ∧ pc + 3 = pc'
def nj_go (cc : ByteArray) (pc tgt : Nat) : Prop := ∃ off : Int, decode cc pc = .ok (.goto off, 3) ∧ (pc : Int) + off = (tgt : Int)
/-- a link of a field: of the class ci the field k -/
def nj_FL (own : String) (idx ci k : Nat) (ty : FieldType) (fin : Bool) : Prop := ∃ q : vw_C, nj_cls[ci]? = some q ∧ k < q.2.2 ∧ Cond.fieldLink own idx (q.2.1 k).1 (q.2.1 k).2.1 (q.2.1 k).2.2.1 ∈ nj_T0 ∧ parseFieldDescriptor (q.2.1 k).2.2.1 = some ty ∧ (q.2.1 k).2.2.2 = fin
section NjRows
variable {G : nj_G} {cc : ByteArray} {nL : Nat} {own : String} {rm : Room} {ad : Nat → Nat} {kc ks pc pc' tgt : Nat} {ls ls' : List (Option Value)} {st : List Value} {hp hp' : List va_E}
theorem vr_ic (C : nj_C G cc nL own rm) {v : Int32} (hd : nj_ic cc pc v pc') (k : nj_V G ad kc ks pc' ls (.int v :: st) hp) : nj_V G ad kc ks pc ls st hp := by
  obtain ⟨⟨p, l, e, R, s, m⟩, ⟨args, below, meth, c, Q⟩, ⟨D, dT, A, sA⟩⟩ := G
  obtain ⟨hx, hb, hml, hown, hts, hR, ⟨hK, hNe, hSt⟩, hlk, hA⟩ := C
  intro H locs lm hsa hP hD hS hL
  rcases hd with ⟨n, h, hv, rfl⟩ | ⟨n, h, hv, rfl⟩ | ⟨n, h, hv, rfl⟩
  · exact lv_iconst hx hb h hv (k H locs lm hsa hP hD hS hL)
  · exact lv_bipush hx hb h hv (k H locs lm hsa hP hD hS hL)
  · exact lv_sipush hx hb h hv (k H locs lm hsa hP hD hS hL)
theorem vr_lc (C : nj_C G cc nL own rm) {n : Fin 2} {v : Int64} (hd : nj_dc cc pc (.lconst n) pc') (h1 : pc + 1 = pc') (hv : Int64.ofNat (n : Nat) = v) (k : nj_V G ad kc ks pc' ls (.long v :: st) hp) : nj_V G ad kc ks pc ls st hp := by
  obtain ⟨⟨p, l, e, R, s, m⟩, ⟨args, below, meth, c, Q⟩, ⟨D, dT, A, sA⟩⟩ := G
  obtain ⟨hx, hb, hml, hown, hts, hR, ⟨hK, hNe, hSt⟩, hlk, hA⟩ := C
  intro H locs lm hsa hP hD hS hL
  obtain ⟨n1, h, h2⟩ := hd
  have e1 : n1 = 1 := by omega
  subst e1
  subst h1
  exact lv_lconst hx hb h hv (k H locs lm hsa hP hD hS hL)
theorem vr_ldc2 (C : nj_C G cc nL own rm) {idx : Nat} {v : Int64} (hd : nj_dc cc pc (.ldc2_w idx) pc') (h1 : pc + 3 = pc') (hw : Cond.constantLong own idx v ∈ nj_T0) (k : nj_V G ad kc ks pc' ls (.long v :: st) hp) : nj_V G ad kc ks pc ls st hp := by
  obtain ⟨⟨p, l, e, R, s, m⟩, ⟨args, below, meth, c, Q⟩, ⟨D, dT, A, sA⟩⟩ := G
  obtain ⟨hx, hb, hml, hown, hts, hR, ⟨hK, hNe, hSt⟩, hlk, hA⟩ := C
  intro H locs lm hsa hP hD hS hL
  obtain ⟨n1, h, h2⟩ := hd
  have e1 : n1 = 3 := by omega
  subst e1
  subst h1
  exact lv_ldc2 hx hb hown (hts _ hw) h (k H locs lm hsa hP hD hS hL)
theorem vr_ldcw (C : nj_C G cc nL own rm) {idx : Nat} {v : Int32} (hd : nj_dc cc pc (.ldc_w idx) pc') (h1 : pc + 3 = pc') (hw : Cond.constant own idx v ∈ nj_T0) (k : nj_V G ad kc ks pc' ls (.int v :: st) hp) : nj_V G ad kc ks pc ls st hp := by
  obtain ⟨⟨p, l, e, R, s, m⟩, ⟨args, below, meth, c, Q⟩, ⟨D, dT, A, sA⟩⟩ := G
  obtain ⟨hx, hb, hml, hown, hts, hR, ⟨hK, hNe, hSt⟩, hlk, hA⟩ := C
  intro H locs lm hsa hP hD hS hL
  obtain ⟨n1, h, h2⟩ := hd
  have e1 : n1 = 3 := by omega
  subst e1
  subst h1
  exact lv_ldcw hx hb hown (hts _ hw) h (k H locs lm hsa hP hD hS hL)
theorem vr_il (C : nj_C G cc nL own rm) {i : Nat} {x : Int32} (hd : nj_il cc pc i pc') (hl : ls[i]? = some (some (.int x))) (k : nj_V G ad kc ks pc' ls (.int x :: st) hp) : nj_V G ad kc ks pc ls st hp := by
  obtain ⟨⟨p, l, e, R, s, m⟩, ⟨args, below, meth, c, Q⟩, ⟨D, dT, A, sA⟩⟩ := G
  obtain ⟨hx, hb, hml, hown, hts, hR, ⟨hK, hNe, hSt⟩, hlk, hA⟩ := C
  intro H locs lm hsa hP hD hS hL
  rcases hd with ⟨n, h, hv, rfl⟩ | ⟨h, rfl⟩
  · exact lv_iload_n hx hb h hv (hL.2.2 _ _ hl) (k H locs lm hsa hP hD hS hL)
  · exact lv_iload hx hb h (hL.2.2 _ _ hl) (k H locs lm hsa hP hD hS hL)
theorem vr_ll (C : nj_C G cc nL own rm) {i : Nat} {x : Int64} (hd : nj_ll cc pc i pc') (hl : ls[i]? = some (some (.long x))) (k : nj_V G ad kc ks pc' ls (.long x :: st) hp) : nj_V G ad kc ks pc ls st hp := by
  obtain ⟨⟨p, l, e, R, s, m⟩, ⟨args, below, meth, c, Q⟩, ⟨D, dT, A, sA⟩⟩ := G
  obtain ⟨hx, hb, hml, hown, hts, hR, ⟨hK, hNe, hSt⟩, hlk, hA⟩ := C
  intro H locs lm hsa hP hD hS hL
  rcases hd with ⟨n, h, hv, rfl⟩ | ⟨h, rfl⟩
  · exact lv_lload_n hx hb h hv (hL.2.2 _ _ hl) (k H locs lm hsa hP hD hS hL)
  · exact lv_lload hx hb h (hL.2.2 _ _ hl) (k H locs lm hsa hP hD hS hL)
theorem vr_al (C : nj_C G cc nL own rm) {i : Nat} {x : Nat} (hd : nj_al cc pc i pc') (hl : ls[i]? = some (some (.ref x))) (k : nj_V G ad kc ks pc' ls (.ref x :: st) hp) : nj_V G ad kc ks pc ls st hp := by
  obtain ⟨⟨p, l, e, R, s, m⟩, ⟨args, below, meth, c, Q⟩, ⟨D, dT, A, sA⟩⟩ := G
  obtain ⟨hx, hb, hml, hown, hts, hR, ⟨hK, hNe, hSt⟩, hlk, hA⟩ := C
  intro H locs lm hsa hP hD hS hL
  rcases hd with ⟨n, h, hv, rfl⟩ | ⟨h, rfl⟩
  · exact lv_aload_n hx hb h hv (hL.2.2 _ _ hl) (k H locs lm hsa hP hD hS hL)
  · exact lv_aload hx hb h (hL.2.2 _ _ hl) (k H locs lm hsa hP hD hS hL)
theorem vr_is (C : nj_C G cc nL own rm) {i : Nat} {x : Int32} (hd : nj_is cc pc i pc') (hn : Nat.ble (i + 1) nL = true) (hl : nj_s1 ls i (.int x) = ls') (k : nj_V G ad kc ks pc' ls' st hp) : nj_V G ad kc ks pc ls (.int x :: st) hp := by
  obtain ⟨⟨p, l, e, R, s, m⟩, ⟨args, below, meth, c, Q⟩, ⟨D, dT, A, sA⟩⟩ := G
  obtain ⟨hx, hb, hml, hown, hts, hR, ⟨hK, hNe, hSt⟩, hlk, hA⟩ := C
  intro H locs lm hsa hP hD hS hL
  have hn := Nat.le_of_ble_eq_true hn
  subst hl
  rcases hd with ⟨n, h, hv, rfl⟩ | ⟨h, rfl⟩
  · exact lv_istore_n hx hb h hv (nj_lm_has hL) (by omega) rfl (fun lm2 h2 => k H locs lm2 hsa hP hD hS (nj_lm_s1 (v := .int x) h2))
  · exact lv_istore hx hb h (nj_lm_has hL) (by omega) rfl (fun lm2 h2 => k H locs lm2 hsa hP hD hS (nj_lm_s1 (v := .int x) h2))
theorem vr_lst (C : nj_C G cc nL own rm) {i : Nat} {x : Int64} (hd : nj_lst cc pc i pc') (hn : Nat.ble (i + 2) nL = true) (hl : nj_s2 ls i (.long x) = ls') (k : nj_V G ad kc ks pc' ls' st hp) : nj_V G ad kc ks pc ls (.long x :: st) hp := by
  obtain ⟨⟨p, l, e, R, s, m⟩, ⟨args, below, meth, c, Q⟩, ⟨D, dT, A, sA⟩⟩ := G
  obtain ⟨hx, hb, hml, hown, hts, hR, ⟨hK, hNe, hSt⟩, hlk, hA⟩ := C
  intro H locs lm hsa hP hD hS hL
  have hn := Nat.le_of_ble_eq_true hn
  subst hl
  rcases hd with ⟨n, h, hv, rfl⟩ | ⟨h, rfl⟩
  · exact lv_lstore_n hx hb h hv (nj_lm_has hL) (by omega) rfl (fun lm2 h2 => k H locs lm2 hsa hP hD hS (nj_lm_s2 (v := .long x) h2))
  · exact lv_lstore hx hb h (nj_lm_has hL) (by omega) rfl (fun lm2 h2 => k H locs lm2 hsa hP hD hS (nj_lm_s2 (v := .long x) h2))
theorem vr_as (C : nj_C G cc nL own rm) {i : Nat} {x : Nat} (hd : nj_as cc pc i pc') (hn : Nat.ble (i + 1) nL = true) (hl : nj_s1 ls i (.ref x) = ls') (k : nj_V G ad kc ks pc' ls' st hp) : nj_V G ad kc ks pc ls (.ref x :: st) hp := by
  obtain ⟨⟨p, l, e, R, s, m⟩, ⟨args, below, meth, c, Q⟩, ⟨D, dT, A, sA⟩⟩ := G
  obtain ⟨hx, hb, hml, hown, hts, hR, ⟨hK, hNe, hSt⟩, hlk, hA⟩ := C
  intro H locs lm hsa hP hD hS hL
  have hn := Nat.le_of_ble_eq_true hn
  subst hl
  rcases hd with ⟨n, h, hv, rfl⟩ | ⟨h, rfl⟩
  · exact lv_astore_n hx hb h hv (nj_lm_has hL) (by omega) rfl (fun lm2 h2 => k H locs lm2 hsa hP hD hS (nj_lm_s1 (v := .ref x) h2))
  · exact lv_astore hx hb h (nj_lm_has hL) (by omega) rfl (fun lm2 h2 => k H locs lm2 hsa hP hD hS (nj_lm_s1 (v := .ref x) h2))
theorem vr_inc (C : nj_C G cc nL own rm) {i : Nat} {n : Int} {x v : Int32} (hd : nj_dc cc pc (.iinc i n) pc') (h1 : pc + 3 = pc') (hn : Nat.ble (i + 1) nL = true) (hg : ls[i]? = some (some (.int x))) (hv : x + Int32.ofInt n = v) (hl : nj_s1 ls i (.int v) = ls') (k : nj_V G ad kc ks pc' ls' st hp) : nj_V G ad kc ks pc ls st hp := by
  obtain ⟨⟨p, l, e, R, s, m⟩, ⟨args, below, meth, c, Q⟩, ⟨D, dT, A, sA⟩⟩ := G
  obtain ⟨hx, hb, hml, hown, hts, hR, ⟨hK, hNe, hSt⟩, hlk, hA⟩ := C
  intro H locs lm hsa hP hD hS hL
  have hn := Nat.le_of_ble_eq_true hn
  subst hl
  obtain ⟨n1, h, h2⟩ := hd
  have e1 : n1 = 3 := by omega
  subst e1
  subst h1
  obtain ⟨k0, hk0⟩ := List.getElem?_of_mem (nj_pl_in (ad := ad) hg)
  exact lv_iinc hx hb h (nj_lm_has hL) hk0 hv (by omega) rfl (fun lm2 h2 => k H locs lm2 hsa hP hD hS (nj_lm_s1 (v := .int v) h2))
def nj_wk : List (Option Value) → List Nat → List (Option Value)
  | ls, [] => ls
  | ls, i :: r => nj_wk (ls.set i none) r
theorem nj_wk_of : ∀ (r : List Nat) (ls : List (Option Value)) (j : Nat) (v : Value), (nj_wk ls r)[j]? = some (some v) → ls[j]? = some (some v)
  | [], ls, j, v, h => h
  | i :: r, ls, j, v, h => by
    have h1 := nj_wk_of r (ls.set i none) j v h
    rw [List.getElem?_set] at h1
    split at h1
    · split at h1 <;> cases h1
    · exact h1
theorem vr_wk (r : List Nat) (h : nj_wk ls r = ls') (k : nj_V G ad kc ks pc ls' st hp) : nj_V G ad kc ks pc ls st hp := by
  obtain ⟨⟨p, l, e, R, s, m⟩, ⟨args, below, meth, c, Q⟩, ⟨D, dT, A, sA⟩⟩ := G
  subst h
  intro H locs lm hsa hP hD hS hL
  exact k H locs lm hsa hP hD hS ⟨hL.1, hL.2.1, fun j v hv => hL.2.2 j v (nj_wk_of r ls j v hv)⟩
theorem vr_iadd (C : nj_C G cc nL own rm) {x y : Int32} (hd : nj_dc cc pc .iadd pc') (h1 : pc + 1 = pc')  (k : nj_V G ad kc ks pc' ls (.int (x + y) :: st) hp) : nj_V G ad kc ks pc ls (.int y :: .int x :: st) hp := by
  obtain ⟨⟨p, l, e, R, s, m⟩, ⟨args, below, meth, c, Q⟩, ⟨D, dT, A, sA⟩⟩ := G
  obtain ⟨hx, hb, hml, hown, hts, hR, ⟨hK, hNe, hSt⟩, hlk, hA⟩ := C
  intro H locs lm hsa hP hD hS hL
  obtain ⟨n1, h, h2⟩ := hd
  have e1 : n1 = 1 := by omega
  subst e1
  subst h1
  exact lv_iadd hx hb h (k H locs lm hsa hP hD hS hL)
theorem vr_isub (C : nj_C G cc nL own rm) {x y : Int32} (hd : nj_dc cc pc .isub pc') (h1 : pc + 1 = pc')  (k : nj_V G ad kc ks pc' ls (.int (x - y) :: st) hp) : nj_V G ad kc ks pc ls (.int y :: .int x :: st) hp := by
  obtain ⟨⟨p, l, e, R, s, m⟩, ⟨args, below, meth, c, Q⟩, ⟨D, dT, A, sA⟩⟩ := G
  obtain ⟨hx, hb, hml, hown, hts, hR, ⟨hK, hNe, hSt⟩, hlk, hA⟩ := C
  intro H locs lm hsa hP hD hS hL
  obtain ⟨n1, h, h2⟩ := hd
  have e1 : n1 = 1 := by omega
  subst e1
  subst h1
  exact lv_isub hx hb h (k H locs lm hsa hP hD hS hL)
theorem vr_imul (C : nj_C G cc nL own rm) {x y : Int32} (hd : nj_dc cc pc .imul pc') (h1 : pc + 1 = pc')  (k : nj_V G ad kc ks pc' ls (.int (x * y) :: st) hp) : nj_V G ad kc ks pc ls (.int y :: .int x :: st) hp := by
  obtain ⟨⟨p, l, e, R, s, m⟩, ⟨args, below, meth, c, Q⟩, ⟨D, dT, A, sA⟩⟩ := G
  obtain ⟨hx, hb, hml, hown, hts, hR, ⟨hK, hNe, hSt⟩, hlk, hA⟩ := C
  intro H locs lm hsa hP hD hS hL
  obtain ⟨n1, h, h2⟩ := hd
  have e1 : n1 = 1 := by omega
  subst e1
  subst h1
  exact lv_imul hx hb h (k H locs lm hsa hP hD hS hL)
theorem vr_iand (C : nj_C G cc nL own rm) {x y : Int32} (hd : nj_dc cc pc .iand pc') (h1 : pc + 1 = pc')  (k : nj_V G ad kc ks pc' ls (.int (x &&& y) :: st) hp) : nj_V G ad kc ks pc ls (.int y :: .int x :: st) hp := by
  obtain ⟨⟨p, l, e, R, s, m⟩, ⟨args, below, meth, c, Q⟩, ⟨D, dT, A, sA⟩⟩ := G
  obtain ⟨hx, hb, hml, hown, hts, hR, ⟨hK, hNe, hSt⟩, hlk, hA⟩ := C
  intro H locs lm hsa hP hD hS hL
  obtain ⟨n1, h, h2⟩ := hd
  have e1 : n1 = 1 := by omega
  subst e1
  subst h1
  exact lv_iand hx hb h (k H locs lm hsa hP hD hS hL)
theorem vr_ior (C : nj_C G cc nL own rm) {x y : Int32} (hd : nj_dc cc pc .ior pc') (h1 : pc + 1 = pc')  (k : nj_V G ad kc ks pc' ls (.int (x ||| y) :: st) hp) : nj_V G ad kc ks pc ls (.int y :: .int x :: st) hp := by
  obtain ⟨⟨p, l, e, R, s, m⟩, ⟨args, below, meth, c, Q⟩, ⟨D, dT, A, sA⟩⟩ := G
  obtain ⟨hx, hb, hml, hown, hts, hR, ⟨hK, hNe, hSt⟩, hlk, hA⟩ := C
  intro H locs lm hsa hP hD hS hL
  obtain ⟨n1, h, h2⟩ := hd
  have e1 : n1 = 1 := by omega
  subst e1
  subst h1
  exact lv_ior hx hb h (k H locs lm hsa hP hD hS hL)
theorem vr_ixor (C : nj_C G cc nL own rm) {x y : Int32} (hd : nj_dc cc pc .ixor pc') (h1 : pc + 1 = pc')  (k : nj_V G ad kc ks pc' ls (.int (x ^^^ y) :: st) hp) : nj_V G ad kc ks pc ls (.int y :: .int x :: st) hp := by
  obtain ⟨⟨p, l, e, R, s, m⟩, ⟨args, below, meth, c, Q⟩, ⟨D, dT, A, sA⟩⟩ := G
  obtain ⟨hx, hb, hml, hown, hts, hR, ⟨hK, hNe, hSt⟩, hlk, hA⟩ := C
  intro H locs lm hsa hP hD hS hL
  obtain ⟨n1, h, h2⟩ := hd
  have e1 : n1 = 1 := by omega
  subst e1
  subst h1
  exact lv_ixor hx hb h (k H locs lm hsa hP hD hS hL)
theorem vr_ishl (C : nj_C G cc nL own rm) {x y : Int32} (hd : nj_dc cc pc .ishl pc') (h1 : pc + 1 = pc')  (k : nj_V G ad kc ks pc' ls (.int (x <<< (y &&& 31)) :: st) hp) : nj_V G ad kc ks pc ls (.int y :: .int x :: st) hp := by
  obtain ⟨⟨p, l, e, R, s, m⟩, ⟨args, below, meth, c, Q⟩, ⟨D, dT, A, sA⟩⟩ := G
  obtain ⟨hx, hb, hml, hown, hts, hR, ⟨hK, hNe, hSt⟩, hlk, hA⟩ := C
  intro H locs lm hsa hP hD hS hL
  obtain ⟨n1, h, h2⟩ := hd
  have e1 : n1 = 1 := by omega
  subst e1
  subst h1
  exact lv_ishl hx hb h (k H locs lm hsa hP hD hS hL)
theorem vr_ishr (C : nj_C G cc nL own rm) {x y : Int32} (hd : nj_dc cc pc .ishr pc') (h1 : pc + 1 = pc')  (k : nj_V G ad kc ks pc' ls (.int (x >>> (y &&& 31)) :: st) hp) : nj_V G ad kc ks pc ls (.int y :: .int x :: st) hp := by
  obtain ⟨⟨p, l, e, R, s, m⟩, ⟨args, below, meth, c, Q⟩, ⟨D, dT, A, sA⟩⟩ := G
  obtain ⟨hx, hb, hml, hown, hts, hR, ⟨hK, hNe, hSt⟩, hlk, hA⟩ := C
  intro H locs lm hsa hP hD hS hL
  obtain ⟨n1, h, h2⟩ := hd
  have e1 : n1 = 1 := by omega
  subst e1
  subst h1
  exact lv_ishr hx hb h (k H locs lm hsa hP hD hS hL)
theorem vr_idiv (C : nj_C G cc nL own rm) {x y : Int32} (hd : nj_dc cc pc .idiv pc') (h1 : pc + 1 = pc') (hne : ¬ y = 0) (k : nj_V G ad kc ks pc' ls (.int (x / y) :: st) hp) : nj_V G ad kc ks pc ls (.int y :: .int x :: st) hp := by
  obtain ⟨⟨p, l, e, R, s, m⟩, ⟨args, below, meth, c, Q⟩, ⟨D, dT, A, sA⟩⟩ := G
  obtain ⟨hx, hb, hml, hown, hts, hR, ⟨hK, hNe, hSt⟩, hlk, hA⟩ := C
  intro H locs lm hsa hP hD hS hL
  obtain ⟨n1, h, h2⟩ := hd
  have e1 : n1 = 1 := by omega
  subst e1
  subst h1
  exact lv_idiv hx hb h hne (k H locs lm hsa hP hD hS hL)
theorem vr_irem (C : nj_C G cc nL own rm) {x y : Int32} (hd : nj_dc cc pc .irem pc') (h1 : pc + 1 = pc') (hne : ¬ y = 0) (k : nj_V G ad kc ks pc' ls (.int (x - x / y * y) :: st) hp) : nj_V G ad kc ks pc ls (.int y :: .int x :: st) hp := by
  obtain ⟨⟨p, l, e, R, s, m⟩, ⟨args, below, meth, c, Q⟩, ⟨D, dT, A, sA⟩⟩ := G
  obtain ⟨hx, hb, hml, hown, hts, hR, ⟨hK, hNe, hSt⟩, hlk, hA⟩ := C
  intro H locs lm hsa hP hD hS hL
  obtain ⟨n1, h, h2⟩ := hd
  have e1 : n1 = 1 := by omega
  subst e1
  subst h1
  exact lv_irem hx hb h hne (k H locs lm hsa hP hD hS hL)
theorem vr_ineg (C : nj_C G cc nL own rm) {x : Int32} (hd : nj_dc cc pc .ineg pc') (h1 : pc + 1 = pc')  (k : nj_V G ad kc ks pc' ls (.int (-x) :: st) hp) : nj_V G ad kc ks pc ls (.int x :: st) hp := by
  obtain ⟨⟨p, l, e, R, s, m⟩, ⟨args, below, meth, c, Q⟩, ⟨D, dT, A, sA⟩⟩ := G
  obtain ⟨hx, hb, hml, hown, hts, hR, ⟨hK, hNe, hSt⟩, hlk, hA⟩ := C
  intro H locs lm hsa hP hD hS hL
  obtain ⟨n1, h, h2⟩ := hd
  have e1 : n1 = 1 := by omega
  subst e1
  subst h1
  exact lv_ineg hx hb h (k H locs lm hsa hP hD hS hL)
theorem vr_iushr (C : nj_C G cc nL own rm) {x y : Int32} (hd : nj_dc cc pc .iushr pc') (h1 : pc + 1 = pc')  (k : nj_V G ad kc ks pc' ls (.int (x.toUInt32 >>> (y.toUInt32 &&& Int32.toUInt32 31)).toInt32 :: st) hp) : nj_V G ad kc ks pc ls (.int y :: .int x :: st) hp := by
  obtain ⟨⟨p, l, e, R, s, m⟩, ⟨args, below, meth, c, Q⟩, ⟨D, dT, A, sA⟩⟩ := G
  obtain ⟨hx, hb, hml, hown, hts, hR, ⟨hK, hNe, hSt⟩, hlk, hA⟩ := C
  intro H locs lm hsa hP hD hS hL
  obtain ⟨n1, h, h2⟩ := hd
  have e1 : n1 = 1 := by omega
  subst e1
  subst h1
  exact lv_iushr hx hb h rfl (k H locs lm hsa hP hD hS hL)
theorem vr_ladd (C : nj_C G cc nL own rm) {x y : Int64} (hd : nj_dc cc pc .ladd pc') (h1 : pc + 1 = pc')  (k : nj_V G ad kc ks pc' ls (.long (x + y) :: st) hp) : nj_V G ad kc ks pc ls (.long y :: .long x :: st) hp := by
  obtain ⟨⟨p, l, e, R, s, m⟩, ⟨args, below, meth, c, Q⟩, ⟨D, dT, A, sA⟩⟩ := G
  obtain ⟨hx, hb, hml, hown, hts, hR, ⟨hK, hNe, hSt⟩, hlk, hA⟩ := C
  intro H locs lm hsa hP hD hS hL
  obtain ⟨n1, h, h2⟩ := hd
  have e1 : n1 = 1 := by omega
  subst e1
  subst h1
  exact lv_ladd hx hb h (k H locs lm hsa hP hD hS hL)
theorem vr_lsub (C : nj_C G cc nL own rm) {x y : Int64} (hd : nj_dc cc pc .lsub pc') (h1 : pc + 1 = pc')  (k : nj_V G ad kc ks pc' ls (.long (x - y) :: st) hp) : nj_V G ad kc ks pc ls (.long y :: .long x :: st) hp := by
  obtain ⟨⟨p, l, e, R, s, m⟩, ⟨args, below, meth, c, Q⟩, ⟨D, dT, A, sA⟩⟩ := G
  obtain ⟨hx, hb, hml, hown, hts, hR, ⟨hK, hNe, hSt⟩, hlk, hA⟩ := C
  intro H locs lm hsa hP hD hS hL
  obtain ⟨n1, h, h2⟩ := hd
  have e1 : n1 = 1 := by omega
  subst e1
  subst h1
  exact lv_lsub hx hb h (k H locs lm hsa hP hD hS hL)
theorem vr_lmul (C : nj_C G cc nL own rm) {x y : Int64} (hd : nj_dc cc pc .lmul pc') (h1 : pc + 1 = pc')  (k : nj_V G ad kc ks pc' ls (.long (x * y) :: st) hp) : nj_V G ad kc ks pc ls (.long y :: .long x :: st) hp := by
  obtain ⟨⟨p, l, e, R, s, m⟩, ⟨args, below, meth, c, Q⟩, ⟨D, dT, A, sA⟩⟩ := G
  obtain ⟨hx, hb, hml, hown, hts, hR, ⟨hK, hNe, hSt⟩, hlk, hA⟩ := C
  intro H locs lm hsa hP hD hS hL
  obtain ⟨n1, h, h2⟩ := hd
  have e1 : n1 = 1 := by omega
  subst e1
  subst h1
  exact lv_lmul hx hb h (k H locs lm hsa hP hD hS hL)
theorem vr_ldiv (C : nj_C G cc nL own rm) {x y : Int64} (hd : nj_dc cc pc .ldiv pc') (h1 : pc + 1 = pc') (hne : ¬ y = 0) (k : nj_V G ad kc ks pc' ls (.long (x / y) :: st) hp) : nj_V G ad kc ks pc ls (.long y :: .long x :: st) hp := by
  obtain ⟨⟨p, l, e, R, s, m⟩, ⟨args, below, meth, c, Q⟩, ⟨D, dT, A, sA⟩⟩ := G
  obtain ⟨hx, hb, hml, hown, hts, hR, ⟨hK, hNe, hSt⟩, hlk, hA⟩ := C
  intro H locs lm hsa hP hD hS hL
  obtain ⟨n1, h, h2⟩ := hd
  have e1 : n1 = 1 := by omega
  subst e1
  subst h1
  exact lv_ldiv hx hb h hne (k H locs lm hsa hP hD hS hL)
theorem vr_lrem (C : nj_C G cc nL own rm) {x y : Int64} (hd : nj_dc cc pc .lrem pc') (h1 : pc + 1 = pc') (hne : ¬ y = 0) (k : nj_V G ad kc ks pc' ls (.long (x - x / y * y) :: st) hp) : nj_V G ad kc ks pc ls (.long y :: .long x :: st) hp := by
  obtain ⟨⟨p, l, e, R, s, m⟩, ⟨args, below, meth, c, Q⟩, ⟨D, dT, A, sA⟩⟩ := G
  obtain ⟨hx, hb, hml, hown, hts, hR, ⟨hK, hNe, hSt⟩, hlk, hA⟩ := C
  intro H locs lm hsa hP hD hS hL
  obtain ⟨n1, h, h2⟩ := hd
  have e1 : n1 = 1 := by omega
  subst e1
  subst h1
  exact lv_lrem hx hb h hne (k H locs lm hsa hP hD hS hL)
theorem vr_i2l (C : nj_C G cc nL own rm) {x : Int32} (hd : nj_dc cc pc .i2l pc') (h1 : pc + 1 = pc')  (k : nj_V G ad kc ks pc' ls (.long x.toInt64 :: st) hp) : nj_V G ad kc ks pc ls (.int x :: st) hp := by
  obtain ⟨⟨p, l, e, R, s, m⟩, ⟨args, below, meth, c, Q⟩, ⟨D, dT, A, sA⟩⟩ := G
  obtain ⟨hx, hb, hml, hown, hts, hR, ⟨hK, hNe, hSt⟩, hlk, hA⟩ := C
  intro H locs lm hsa hP hD hS hL
  obtain ⟨n1, h, h2⟩ := hd
  have e1 : n1 = 1 := by omega
  subst e1
  subst h1
  exact lv_i2l hx hb h rfl (k H locs lm hsa hP hD hS hL)
theorem vr_l2i (C : nj_C G cc nL own rm) {x : Int64} (hd : nj_dc cc pc .l2i pc') (h1 : pc + 1 = pc')  (k : nj_V G ad kc ks pc' ls (.int x.toInt32 :: st) hp) : nj_V G ad kc ks pc ls (.long x :: st) hp := by
  obtain ⟨⟨p, l, e, R, s, m⟩, ⟨args, below, meth, c, Q⟩, ⟨D, dT, A, sA⟩⟩ := G
  obtain ⟨hx, hb, hml, hown, hts, hR, ⟨hK, hNe, hSt⟩, hlk, hA⟩ := C
  intro H locs lm hsa hP hD hS hL
  obtain ⟨n1, h, h2⟩ := hd
  have e1 : n1 = 1 := by omega
  subst e1
  subst h1
  exact lv_l2i hx hb h rfl (k H locs lm hsa hP hD hS hL)
theorem vr_i2b (C : nj_C G cc nL own rm) {x : Int32} (hd : nj_dc cc pc .i2b pc') (h1 : pc + 1 = pc')  (k : nj_V G ad kc ks pc' ls (.int x.toInt8.toInt32 :: st) hp) : nj_V G ad kc ks pc ls (.int x :: st) hp := by
  obtain ⟨⟨p, l, e, R, s, m⟩, ⟨args, below, meth, c, Q⟩, ⟨D, dT, A, sA⟩⟩ := G
  obtain ⟨hx, hb, hml, hown, hts, hR, ⟨hK, hNe, hSt⟩, hlk, hA⟩ := C
  intro H locs lm hsa hP hD hS hL
  obtain ⟨n1, h, h2⟩ := hd
  have e1 : n1 = 1 := by omega
  subst e1
  subst h1
  exact lv_i2b hx hb h rfl (k H locs lm hsa hP hD hS hL)
theorem vr_lcmp (C : nj_C G cc nL own rm) {x y : Int64} (hd : nj_dc cc pc .lcmp pc') (h1 : pc + 1 = pc') (k : nj_V G ad kc ks pc' ls (.int (lg_cmp x y) :: st) hp) : nj_V G ad kc ks pc ls (.long y :: .long x :: st) hp := by
  obtain ⟨⟨p, l, e, R, s, m⟩, ⟨args, below, meth, c, Q⟩, ⟨D, dT, A, sA⟩⟩ := G
  obtain ⟨hx, hb, hml, hown, hts, hR, ⟨hK, hNe, hSt⟩, hlk, hA⟩ := C
  intro H locs lm hsa hP hD hS hL
  obtain ⟨n1, h, h2⟩ := hd
  have e1 : n1 = 1 := by omega
  subst e1
  subst h1
  exact W.lcmp hx hb h (k H locs lm hsa hP hD hS hL)
theorem vr_dup (C : nj_C G cc nL own rm) {v : Value} (hd : nj_dc cc pc .dup pc') (h1 : pc + 1 = pc') (hc : v.category = 1) (k : nj_V G ad kc ks pc' ls (v :: v :: st) hp) : nj_V G ad kc ks pc ls (v :: st) hp := by
  obtain ⟨⟨p, l, e, R, s, m⟩, ⟨args, below, meth, c, Q⟩, ⟨D, dT, A, sA⟩⟩ := G
  obtain ⟨hx, hb, hml, hown, hts, hR, ⟨hK, hNe, hSt⟩, hlk, hA⟩ := C
  intro H locs lm hsa hP hD hS hL
  obtain ⟨n1, h, h2⟩ := hd
  have e1 : n1 = 1 := by omega
  subst e1
  subst h1
  exact lv_dup hx hb h (by rw [nj_cat]; exact hc) (k H locs lm hsa hP hD hS hL)
theorem vr_pop (C : nj_C G cc nL own rm) {v : Value} (hd : nj_dc cc pc .pop pc') (h1 : pc + 1 = pc') (hc : v.category = 1) (k : nj_V G ad kc ks pc' ls st hp) : nj_V G ad kc ks pc ls (v :: st) hp := by
  obtain ⟨⟨p, l, e, R, s, m⟩, ⟨args, below, meth, c, Q⟩, ⟨D, dT, A, sA⟩⟩ := G
  obtain ⟨hx, hb, hml, hown, hts, hR, ⟨hK, hNe, hSt⟩, hlk, hA⟩ := C
  intro H locs lm hsa hP hD hS hL
  obtain ⟨n1, h, h2⟩ := hd
  have e1 : n1 = 1 := by omega
  subst e1
  subst h1
  exact lv_pop hx hb h (by rw [nj_cat]; exact hc) (k H locs lm hsa hP hD hS hL)
theorem vr_dup2 (C : nj_C G cc nL own rm) {v w : Value} (hd : nj_dc cc pc .dup2 pc') (h1 : pc + 1 = pc') (hc : v.category = 1) (hc2 : w.category = 1) (k : nj_V G ad kc ks pc' ls (v :: w :: v :: w :: st) hp) : nj_V G ad kc ks pc ls (v :: w :: st) hp := by
  obtain ⟨⟨p, l, e, R, s, m⟩, ⟨args, below, meth, c, Q⟩, ⟨D, dT, A, sA⟩⟩ := G
  obtain ⟨hx, hb, hml, hown, hts, hR, ⟨hK, hNe, hSt⟩, hlk, hA⟩ := C
  intro H locs lm hsa hP hD hS hL
  obtain ⟨n1, h, h2⟩ := hd
  have e1 : n1 = 1 := by omega
  subst e1
  subst h1
  exact lv_dup2_11 hx hb h (by rw [nj_cat]; exact hc) (by rw [nj_cat]; exact hc2) (k H locs lm hsa hP hD hS hL)
theorem vr_if_eq (C : nj_C G cc nL own rm) {x : Int32} (hd : nj_if cc pc .eq tgt pc') (kt : x = 0 → nj_V G ad kc ks tgt ls st hp) (kf : ¬ x = 0 → nj_V G ad kc ks pc' ls st hp) : nj_V G ad kc ks pc ls (.int x :: st) hp := by
  obtain ⟨⟨p, l, e, R, s, m⟩, ⟨args, below, meth, c, Q⟩, ⟨D, dT, A, sA⟩⟩ := G
  obtain ⟨hx, hb, hml, hown, hts, hR, ⟨hK, hNe, hSt⟩, hlk, hA⟩ := C
  intro H locs lm hsa hP hD hS hL
  obtain ⟨off, h, ht, rfl⟩ := hd
  exact lv_if_eq hx hb h ht (fun q => kt q H locs lm hsa hP hD hS hL) (fun q => kf q H locs lm hsa hP hD hS hL)
theorem vr_cm_eq (C : nj_C G cc nL own rm) {x y : Int32} (hd : nj_cm cc pc .eq tgt pc') (kt : x = y → nj_V G ad kc ks tgt ls st hp) (kf : ¬ x = y → nj_V G ad kc ks pc' ls st hp) : nj_V G ad kc ks pc ls (.int y :: .int x :: st) hp := by
  obtain ⟨⟨p, l, e, R, s, m⟩, ⟨args, below, meth, c, Q⟩, ⟨D, dT, A, sA⟩⟩ := G
  obtain ⟨hx, hb, hml, hown, hts, hR, ⟨hK, hNe, hSt⟩, hlk, hA⟩ := C
  intro H locs lm hsa hP hD hS hL
  obtain ⟨off, h, ht, rfl⟩ := hd
  exact lv_icmp_eq hx hb h ht (fun q => kt q H locs lm hsa hP hD hS hL) (fun q => kf q H locs lm hsa hP hD hS hL)
theorem vr_if_ne (C : nj_C G cc nL own rm) {x : Int32} (hd : nj_if cc pc .ne tgt pc') (kt : ¬ x = 0 → nj_V G ad kc ks tgt ls st hp) (kf : x = 0 → nj_V G ad kc ks pc' ls st hp) : nj_V G ad kc ks pc ls (.int x :: st) hp := by
  obtain ⟨⟨p, l, e, R, s, m⟩, ⟨args, below, meth, c, Q⟩, ⟨D, dT, A, sA⟩⟩ := G
  obtain ⟨hx, hb, hml, hown, hts, hR, ⟨hK, hNe, hSt⟩, hlk, hA⟩ := C
  intro H locs lm hsa hP hD hS hL
  obtain ⟨off, h, ht, rfl⟩ := hd
  exact lv_if_ne hx hb h ht (fun q => kt q H locs lm hsa hP hD hS hL) (fun q => kf q H locs lm hsa hP hD hS hL)
theorem vr_cm_ne (C : nj_C G cc nL own rm) {x y : Int32} (hd : nj_cm cc pc .ne tgt pc') (kt : ¬ x = y → nj_V G ad kc ks tgt ls st hp) (kf : x = y → nj_V G ad kc ks pc' ls st hp) : nj_V G ad kc ks pc ls (.int y :: .int x :: st) hp := by
  obtain ⟨⟨p, l, e, R, s, m⟩, ⟨args, below, meth, c, Q⟩, ⟨D, dT, A, sA⟩⟩ := G
  obtain ⟨hx, hb, hml, hown, hts, hR, ⟨hK, hNe, hSt⟩, hlk, hA⟩ := C
  intro H locs lm hsa hP hD hS hL
  obtain ⟨off, h, ht, rfl⟩ := hd
  exact lv_icmp_ne hx hb h ht (fun q => kt q H locs lm hsa hP hD hS hL) (fun q => kf q H locs lm hsa hP hD hS hL)
theorem vr_if_lt (C : nj_C G cc nL own rm) {x : Int32} (hd : nj_if cc pc .lt tgt pc') (kt : x < 0 → nj_V G ad kc ks tgt ls st hp) (kf : ¬ x < 0 → nj_V G ad kc ks pc' ls st hp) : nj_V G ad kc ks pc ls (.int x :: st) hp := by
  obtain ⟨⟨p, l, e, R, s, m⟩, ⟨args, below, meth, c, Q⟩, ⟨D, dT, A, sA⟩⟩ := G
  obtain ⟨hx, hb, hml, hown, hts, hR, ⟨hK, hNe, hSt⟩, hlk, hA⟩ := C
  intro H locs lm hsa hP hD hS hL
  obtain ⟨off, h, ht, rfl⟩ := hd
  exact lv_if_lt hx hb h ht (fun q => kt q H locs lm hsa hP hD hS hL) (fun q => kf q H locs lm hsa hP hD hS hL)
theorem vr_cm_lt (C : nj_C G cc nL own rm) {x y : Int32} (hd : nj_cm cc pc .lt tgt pc') (kt : x < y → nj_V G ad kc ks tgt ls st hp) (kf : ¬ x < y → nj_V G ad kc ks pc' ls st hp) : nj_V G ad kc ks pc ls (.int y :: .int x :: st) hp := by
  obtain ⟨⟨p, l, e, R, s, m⟩, ⟨args, below, meth, c, Q⟩, ⟨D, dT, A, sA⟩⟩ := G
  obtain ⟨hx, hb, hml, hown, hts, hR, ⟨hK, hNe, hSt⟩, hlk, hA⟩ := C
  intro H locs lm hsa hP hD hS hL
  obtain ⟨off, h, ht, rfl⟩ := hd
  exact lv_icmp_lt hx hb h ht (fun q => kt q H locs lm hsa hP hD hS hL) (fun q => kf q H locs lm hsa hP hD hS hL)
theorem vr_if_ge (C : nj_C G cc nL own rm) {x : Int32} (hd : nj_if cc pc .ge tgt pc') (kt : 0 ≤ x → nj_V G ad kc ks tgt ls st hp) (kf : ¬ 0 ≤ x → nj_V G ad kc ks pc' ls st hp) : nj_V G ad kc ks pc ls (.int x :: st) hp := by
  obtain ⟨⟨p, l, e, R, s, m⟩, ⟨args, below, meth, c, Q⟩, ⟨D, dT, A, sA⟩⟩ := G
  obtain ⟨hx, hb, hml, hown, hts, hR, ⟨hK, hNe, hSt⟩, hlk, hA⟩ := C
  intro H locs lm hsa hP hD hS hL
  obtain ⟨off, h, ht, rfl⟩ := hd
  exact lv_if_ge hx hb h ht (fun q => kt q H locs lm hsa hP hD hS hL) (fun q => kf q H locs lm hsa hP hD hS hL)
theorem vr_cm_ge (C : nj_C G cc nL own rm) {x y : Int32} (hd : nj_cm cc pc .ge tgt pc') (kt : y ≤ x → nj_V G ad kc ks tgt ls st hp) (kf : ¬ y ≤ x → nj_V G ad kc ks pc' ls st hp) : nj_V G ad kc ks pc ls (.int y :: .int x :: st) hp := by
  obtain ⟨⟨p, l, e, R, s, m⟩, ⟨args, below, meth, c, Q⟩, ⟨D, dT, A, sA⟩⟩ := G
  obtain ⟨hx, hb, hml, hown, hts, hR, ⟨hK, hNe, hSt⟩, hlk, hA⟩ := C
  intro H locs lm hsa hP hD hS hL
  obtain ⟨off, h, ht, rfl⟩ := hd
  exact lv_icmp_ge hx hb h ht (fun q => kt q H locs lm hsa hP hD hS hL) (fun q => kf q H locs lm hsa hP hD hS hL)
theorem vr_if_gt (C : nj_C G cc nL own rm) {x : Int32} (hd : nj_if cc pc .gt tgt pc') (kt : 0 < x → nj_V G ad kc ks tgt ls st hp) (kf : ¬ 0 < x → nj_V G ad kc ks pc' ls st hp) : nj_V G ad kc ks pc ls (.int x :: st) hp := by
  obtain ⟨⟨p, l, e, R, s, m⟩, ⟨args, below, meth, c, Q⟩, ⟨D, dT, A, sA⟩⟩ := G
  obtain ⟨hx, hb, hml, hown, hts, hR, ⟨hK, hNe, hSt⟩, hlk, hA⟩ := C
  intro H locs lm hsa hP hD hS hL
  obtain ⟨off, h, ht, rfl⟩ := hd
  exact lv_if_gt hx hb h ht (fun q => kt q H locs lm hsa hP hD hS hL) (fun q => kf q H locs lm hsa hP hD hS hL)
theorem vr_cm_gt (C : nj_C G cc nL own rm) {x y : Int32} (hd : nj_cm cc pc .gt tgt pc') (kt : y < x → nj_V G ad kc ks tgt ls st hp) (kf : ¬ y < x → nj_V G ad kc ks pc' ls st hp) : nj_V G ad kc ks pc ls (.int y :: .int x :: st) hp := by
  obtain ⟨⟨p, l, e, R, s, m⟩, ⟨args, below, meth, c, Q⟩, ⟨D, dT, A, sA⟩⟩ := G
  obtain ⟨hx, hb, hml, hown, hts, hR, ⟨hK, hNe, hSt⟩, hlk, hA⟩ := C
  intro H locs lm hsa hP hD hS hL
  obtain ⟨off, h, ht, rfl⟩ := hd
  exact lv_icmp_gt hx hb h ht (fun q => kt q H locs lm hsa hP hD hS hL) (fun q => kf q H locs lm hsa hP hD hS hL)
theorem vr_if_le (C : nj_C G cc nL own rm) {x : Int32} (hd : nj_if cc pc .le tgt pc') (kt : x ≤ 0 → nj_V G ad kc ks tgt ls st hp) (kf : ¬ x ≤ 0 → nj_V G ad kc ks pc' ls st hp) : nj_V G ad kc ks pc ls (.int x :: st) hp := by
  obtain ⟨⟨p, l, e, R, s, m⟩, ⟨args, below, meth, c, Q⟩, ⟨D, dT, A, sA⟩⟩ := G
  obtain ⟨hx, hb, hml, hown, hts, hR, ⟨hK, hNe, hSt⟩, hlk, hA⟩ := C
  intro H locs lm hsa hP hD hS hL
  obtain ⟨off, h, ht, rfl⟩ := hd
  exact lv_if_le hx hb h ht (fun q => kt q H locs lm hsa hP hD hS hL) (fun q => kf q H locs lm hsa hP hD hS hL)
theorem vr_cm_le (C : nj_C G cc nL own rm) {x y : Int32} (hd : nj_cm cc pc .le tgt pc') (kt : x ≤ y → nj_V G ad kc ks tgt ls st hp) (kf : ¬ x ≤ y → nj_V G ad kc ks pc' ls st hp) : nj_V G ad kc ks pc ls (.int y :: .int x :: st) hp := by
  obtain ⟨⟨p, l, e, R, s, m⟩, ⟨args, below, meth, c, Q⟩, ⟨D, dT, A, sA⟩⟩ := G
  obtain ⟨hx, hb, hml, hown, hts, hR, ⟨hK, hNe, hSt⟩, hlk, hA⟩ := C
  intro H locs lm hsa hP hD hS hL
  obtain ⟨off, h, ht, rfl⟩ := hd
  exact lv_icmp_le hx hb h ht (fun q => kt q H locs lm hsa hP hD hS hL) (fun q => kf q H locs lm hsa hP hD hS hL)
theorem vr_go (C : nj_C G cc nL own rm) (hd : nj_go cc pc tgt) (k : nj_V G ad kc ks tgt ls st hp) : nj_V G ad kc ks pc ls st hp := by
  obtain ⟨⟨p, l, e, R, s, m⟩, ⟨args, below, meth, c, Q⟩, ⟨D, dT, A, sA⟩⟩ := G
  obtain ⟨hx, hb, hml, hown, hts, hR, ⟨hK, hNe, hSt⟩, hlk, hA⟩ := C
  intro H locs lm hsa hP hD hS hL
  obtain ⟨off, h, ht⟩ := hd
  exact lv_goto hx hb h ht (k H locs lm hsa hP hD hS hL)
def nj_b (b : Bool) : Int32 := match b with
  | true => 1
  | false => 0
theorem vr_ifb_eq (C : nj_C G cc nL own rm) {b : Bool} (hd : nj_if cc pc .eq tgt pc') (kt : b = false → nj_V G ad kc ks tgt ls st hp) (kf : b = true → nj_V G ad kc ks pc' ls st hp) : nj_V G ad kc ks pc ls (.int (nj_b b) :: st) hp := by
  obtain ⟨⟨p, l, e, R, s, m⟩, ⟨args, below, meth, c, Q⟩, ⟨D, dT, A, sA⟩⟩ := G
  obtain ⟨hx, hb, hml, hown, hts, hR, ⟨hK, hNe, hSt⟩, hlk, hA⟩ := C
  intro H locs lm hsa hP hD hS hL
  obtain ⟨off, h, ht, rfl⟩ := hd
  exact lv_if_eq hx hb h ht (fun q => kt (by cases b <;> simp_all [nj_b]) H locs lm hsa hP hD hS hL) (fun q => kf (by cases b <;> simp_all [nj_b]) H locs lm hsa hP hD hS hL)
theorem vr_ifb_ne (C : nj_C G cc nL own rm) {b : Bool} (hd : nj_if cc pc .ne tgt pc') (kt : b = true → nj_V G ad kc ks tgt ls st hp) (kf : b = false → nj_V G ad kc ks pc' ls st hp) : nj_V G ad kc ks pc ls (.int (nj_b b) :: st) hp := by
  obtain ⟨⟨p, l, e, R, s, m⟩, ⟨args, below, meth, c, Q⟩, ⟨D, dT, A, sA⟩⟩ := G
  obtain ⟨hx, hb, hml, hown, hts, hR, ⟨hK, hNe, hSt⟩, hlk, hA⟩ := C
  intro H locs lm hsa hP hD hS hL
  obtain ⟨off, h, ht, rfl⟩ := hd
  exact lv_if_ne hx hb h ht (fun q => kt (by cases b <;> simp_all [nj_b]) H locs lm hsa hP hD hS hL) (fun q => kf (by cases b <;> simp_all [nj_b]) H locs lm hsa hP hD hS hL)
theorem vr_get (C : nj_C G cc nL own rm) {idx ci k0 q : Nat} {ty : FieldType} {fin : Bool} {fs : List Value} {v : Value} (hd : nj_dc cc pc (.getfield idx) pc') (h1 : pc + 3 = pc') (hf : nj_FL own idx ci k0 ty fin) (he : hp[q]? = some (.inr (ci, fs))) (hv : fs[k0]? = some v) (k : nj_V G ad kc ks pc' ls (v :: st) hp) : nj_V G ad kc ks pc ls (.ref q :: st) hp := by
  obtain ⟨⟨p, l, e, R, s, m⟩, ⟨args, below, meth, c, Q⟩, ⟨D, dT, A, sA⟩⟩ := G
  obtain ⟨hx, hb, hml, hown, hts, hR, ⟨hK, hNe, hSt⟩, hlk, hA⟩ := C
  intro H locs lm hsa hP hD hS hL
  obtain ⟨n1, h, h2⟩ := hd
  have e1 : n1 = 3 := by omega
  subst e1
  subst h1
  obtain ⟨r, hc, hk, hl, -, -⟩ := hf
  exact va_get (C := r.1) (T := r.2.1) (N := r.2.2) hx hb hts (nj_cls_ok r (List.mem_of_getElem? hc)).1 hown hK hP q (nj_pw_at he) hc k0 hk (hts _ hl) (fun _ z => z) (by simp [hv]) h (k H locs lm hsa hP hD hS hL)
theorem vr_puti (C : nj_C G cc nL own rm) {idx ci k0 q : Nat} {fs : List Value} {x : Int32} (hd : nj_dc cc pc (.putfield idx) pc') (h1 : pc + 3 = pc') (hf : nj_FL own idx ci k0 .int false) (he : hp[q]? = some (.inr (ci, fs))) (hl : Nat.blt k0 fs.length = true) (hs : hp.set q (.inr (ci, fs.set k0 (.int x))) = hp') (k : nj_V G ad kc ks pc' ls st hp') : nj_V G ad kc ks pc ls (.int x :: .ref q :: st) hp := by
  obtain ⟨⟨p, l, e, R, s, m⟩, ⟨args, below, meth, c, Q⟩, ⟨D, dT, A, sA⟩⟩ := G
  obtain ⟨hx, hb, hml, hown, hts, hR, ⟨hK, hNe, hSt⟩, hlk, hA⟩ := C
  intro H locs lm hsa hP hD hS hL
  obtain ⟨n1, h, h2⟩ := hd
  have e1 : n1 = 3 := by omega
  subst e1
  subst h1
  obtain ⟨r, hc, hk, hl2, hty, hfi⟩ := hf
  obtain ⟨c1, ⟨ty0, c2⟩, c3⟩ := nj_cls_ok r (List.mem_of_getElem? hc)
  have hl3 : k0 < fs.length := by simpa [Nat.blt_eq] using hl
  refine va_put (C := r.1) (T := r.2.1) (N := r.2.2) (v := .int x) hx hb hts c1 ty0 c2 c3 hown hK hP hD hS q (nj_pw_at he) hc k0 hk (hts _ hl2) (fun _ z => z) hfi hty (by first | rfl | exact vp_nar_int _) rfl (by simpa using hl3) h (fun H1 locs1 hP1 hD1 hS1 => ?_)
  have e9 : (nj_pw ad dT hp).set q (ad q, .inr (ci, (fs.map (nj_pv ad)).set k0 (.int x))) = nj_pw ad dT hp' := by
    rw [← hs, ← nj_pw_set]
    simp [nj_pe, List.map_set, nj_pv]
  exact k H1 locs1 lm hsa (e9 ▸ hP1) (e9 ▸ hD1) hS1 hL
theorem vr_putl (C : nj_C G cc nL own rm) {idx ci k0 q : Nat} {fs : List Value} {x : Int64} (hd : nj_dc cc pc (.putfield idx) pc') (h1 : pc + 3 = pc') (hf : nj_FL own idx ci k0 .long false) (he : hp[q]? = some (.inr (ci, fs))) (hl : Nat.blt k0 fs.length = true) (hs : hp.set q (.inr (ci, fs.set k0 (.long x))) = hp') (k : nj_V G ad kc ks pc' ls st hp') : nj_V G ad kc ks pc ls (.long x :: .ref q :: st) hp := by
  obtain ⟨⟨p, l, e, R, s, m⟩, ⟨args, below, meth, c, Q⟩, ⟨D, dT, A, sA⟩⟩ := G
  obtain ⟨hx, hb, hml, hown, hts, hR, ⟨hK, hNe, hSt⟩, hlk, hA⟩ := C
  intro H locs lm hsa hP hD hS hL
  obtain ⟨n1, h, h2⟩ := hd
  have e1 : n1 = 3 := by omega
  subst e1
  subst h1
  obtain ⟨r, hc, hk, hl2, hty, hfi⟩ := hf
  obtain ⟨c1, ⟨ty0, c2⟩, c3⟩ := nj_cls_ok r (List.mem_of_getElem? hc)
  have hl3 : k0 < fs.length := by simpa [Nat.blt_eq] using hl
  refine va_put (C := r.1) (T := r.2.1) (N := r.2.2) (v := .long x) hx hb hts c1 ty0 c2 c3 hown hK hP hD hS q (nj_pw_at he) hc k0 hk (hts _ hl2) (fun _ z => z) hfi hty (by first | rfl | exact vp_nar_int _) rfl (by simpa using hl3) h (fun H1 locs1 hP1 hD1 hS1 => ?_)
  have e9 : (nj_pw ad dT hp).set q (ad q, .inr (ci, (fs.map (nj_pv ad)).set k0 (.long x))) = nj_pw ad dT hp' := by
    rw [← hs, ← nj_pw_set]
    simp [nj_pe, List.map_set, nj_pv]
  exact k H1 locs1 lm hsa (e9 ▸ hP1) (e9 ▸ hD1) hS1 hL
theorem vr_iald (C : nj_C G cc nL own rm) {q n : Nat} {f : Nat → Int32} {i : Int32} (hd : nj_dc cc pc .iaload pc') (h1 : pc + 1 = pc') (he : hp[q]? = some (.inl (0, n, .inl f))) (hin : vp_in i n) (k : nj_V G ad kc ks pc' ls (.int (f i.toNatClampNeg) :: st) hp) : nj_V G ad kc ks pc ls (.int i :: .ref q :: st) hp := by
  obtain ⟨⟨p, l, e, R, s, m⟩, ⟨args, below, meth, c, Q⟩, ⟨D, dT, A, sA⟩⟩ := G
  obtain ⟨hx, hb, hml, hown, hts, hR, ⟨hK, hNe, hSt⟩, hlk, hA⟩ := C
  intro H locs lm hsa hP hD hS hL
  obtain ⟨n1, h, h2⟩ := hd
  have e1 : n1 = 1 := by omega
  subst e1
  subst h1
  exact va_iald hx hb hK hP q 0 (nj_pw_at he) rfl hin h (k H locs lm hsa hP hD hS hL)
theorem vr_bald (C : nj_C G cc nL own rm) {q n : Nat} {f : Nat → Int32} {i : Int32} (hd : nj_dc cc pc .baload pc') (h1 : pc + 1 = pc') (he : hp[q]? = some (.inl (2, n, .inl f))) (hin : vp_in i n) (k : nj_V G ad kc ks pc' ls (.int (f i.toNatClampNeg) :: st) hp) : nj_V G ad kc ks pc ls (.int i :: .ref q :: st) hp := by
  obtain ⟨⟨p, l, e, R, s, m⟩, ⟨args, below, meth, c, Q⟩, ⟨D, dT, A, sA⟩⟩ := G
  obtain ⟨hx, hb, hml, hown, hts, hR, ⟨hK, hNe, hSt⟩, hlk, hA⟩ := C
  intro H locs lm hsa hP hD hS hL
  obtain ⟨n1, h, h2⟩ := hd
  have e1 : n1 = 1 := by omega
  subst e1
  subst h1
  exact va_bald hx hb hK hP q 2 (nj_pw_at he) rfl hin h (k H locs lm hsa hP hD hS hL)
theorem vr_lald (C : nj_C G cc nL own rm) {q n : Nat} {f : Nat → Int64} {i : Int32} (hd : nj_dc cc pc .laload pc') (h1 : pc + 1 = pc') (he : hp[q]? = some (.inl (1, n, .inr (.inl f)))) (hin : vp_in i n) (k : nj_V G ad kc ks pc' ls (.long (f i.toNatClampNeg) :: st) hp) : nj_V G ad kc ks pc ls (.int i :: .ref q :: st) hp := by
  obtain ⟨⟨p, l, e, R, s, m⟩, ⟨args, below, meth, c, Q⟩, ⟨D, dT, A, sA⟩⟩ := G
  obtain ⟨hx, hb, hml, hown, hts, hR, ⟨hK, hNe, hSt⟩, hlk, hA⟩ := C
  intro H locs lm hsa hP hD hS hL
  obtain ⟨n1, h, h2⟩ := hd
  have e1 : n1 = 1 := by omega
  subst e1
  subst h1
  exact va_lald hx hb hK hP q 1 (nj_pw_at he) rfl hin h (k H locs lm hsa hP hD hS hL)
theorem vr_aald3 (C : nj_C G cc nL own rm) {q n y : Nat} {f : Nat → Option Nat} {i : Int32} (hd : nj_dc cc pc .aaload pc') (h1 : pc + 1 = pc') (he : hp[q]? = some (.inl (3, n, .inr (.inr (.inr (.inr f)))))) (hin : vp_in i n) (hy : f i.toNatClampNeg = some y) (k : nj_V G ad kc ks pc' ls (.ref y :: st) hp) : nj_V G ad kc ks pc ls (.int i :: .ref q :: st) hp := by
  obtain ⟨⟨p, l, e, R, s, m⟩, ⟨args, below, meth, c, Q⟩, ⟨D, dT, A, sA⟩⟩ := G
  obtain ⟨hx, hb, hml, hown, hts, hR, ⟨hK, hNe, hSt⟩, hlk, hA⟩ := C
  intro H locs lm hsa hP hD hS hL
  obtain ⟨n1, h, h2⟩ := hd
  have e1 : n1 = 1 := by omega
  subst e1
  subst h1
  refine va_aldq (C := nj_RRow) hx hb hK hP q 3 (nj_pw_at he) rfl hin h ?_
  have e9 : va_rf ((f i.toNatClampNeg).map ad) = .ref (ad y) := by rw [hy]; rfl
  rw [e9]
  exact k H locs lm hsa hP hD hS hL
theorem vr_aald4 (C : nj_C G cc nL own rm) {q n y : Nat} {f : Nat → Option Nat} {i : Int32} (hd : nj_dc cc pc .aaload pc') (h1 : pc + 1 = pc') (he : hp[q]? = some (.inl (4, n, .inr (.inr (.inr (.inr f)))))) (hin : vp_in i n) (hy : f i.toNatClampNeg = some y) (k : nj_V G ad kc ks pc' ls (.ref y :: st) hp) : nj_V G ad kc ks pc ls (.int i :: .ref q :: st) hp := by
  obtain ⟨⟨p, l, e, R, s, m⟩, ⟨args, below, meth, c, Q⟩, ⟨D, dT, A, sA⟩⟩ := G
  obtain ⟨hx, hb, hml, hown, hts, hR, ⟨hK, hNe, hSt⟩, hlk, hA⟩ := C
  intro H locs lm hsa hP hD hS hL
  obtain ⟨n1, h, h2⟩ := hd
  have e1 : n1 = 1 := by omega
  subst e1
  subst h1
  refine va_aldq (C := nj_RText) hx hb hK hP q 4 (nj_pw_at he) rfl hin h ?_
  have e9 : va_rf ((f i.toNatClampNeg).map ad) = .ref (ad y) := by rw [hy]; rfl
  rw [e9]
  exact k H locs lm hsa hP hD hS hL
theorem vr_aald5 (C : nj_C G cc nL own rm) {q n y : Nat} {f : Nat → Option Nat} {i : Int32} (hd : nj_dc cc pc .aaload pc') (h1 : pc + 1 = pc') (he : hp[q]? = some (.inl (5, n, .inr (.inr (.inr (.inr f)))))) (hin : vp_in i n) (hy : f i.toNatClampNeg = some y) (k : nj_V G ad kc ks pc' ls (.ref y :: st) hp) : nj_V G ad kc ks pc ls (.int i :: .ref q :: st) hp := by
  obtain ⟨⟨p, l, e, R, s, m⟩, ⟨args, below, meth, c, Q⟩, ⟨D, dT, A, sA⟩⟩ := G
  obtain ⟨hx, hb, hml, hown, hts, hR, ⟨hK, hNe, hSt⟩, hlk, hA⟩ := C
  intro H locs lm hsa hP hD hS hL
  obtain ⟨n1, h, h2⟩ := hd
  have e1 : n1 = 1 := by omega
  subst e1
  subst h1
  refine va_aldq (C := nj_RClub) hx hb hK hP q 5 (nj_pw_at he) rfl hin h ?_
  have e9 : va_rf ((f i.toNatClampNeg).map ad) = .ref (ad y) := by rw [hy]; rfl
  rw [e9]
  exact k H locs lm hsa hP hD hS hL
theorem vr_iast (C : nj_C G cc nL own rm) {q n : Nat} {f : Nat → Int32} {i : Int32} {x : Int32} (hd : nj_dc cc pc .iastore pc') (h1 : pc + 1 = pc') (he : hp[q]? = some (.inl (0, n, .inl f))) (hin : vp_in i n) (hs : hp.set q (.inl (0, n, .inl (upd f i.toNatClampNeg x))) = hp') (k : nj_V G ad kc ks pc' ls st hp') : nj_V G ad kc ks pc ls (.int x :: .int i :: .ref q :: st) hp := by
  obtain ⟨⟨p, l, e, R, s, m⟩, ⟨args, below, meth, c, Q⟩, ⟨D, dT, A, sA⟩⟩ := G
  obtain ⟨hx, hb, hml, hown, hts, hR, ⟨hK, hNe, hSt⟩, hlk, hA⟩ := C
  intro H locs lm hsa hP hD hS hL
  obtain ⟨n1, h, h2⟩ := hd
  have e1 : n1 = 1 := by omega
  subst e1
  subst h1
  refine va_iast hx hb hK hP hD hS q 0 (nj_pw_at he) rfl hin h (fun H1 locs1 hP1 hD1 hS1 => ?_)
  have e9 : (nj_pw ad dT hp).set q (ad q, .inl (dT 0, n, .inl (upd f i.toNatClampNeg x))) = nj_pw ad dT hp' := by
    rw [← hs, ← nj_pw_set]
    rfl
  exact k H1 locs1 lm hsa (e9 ▸ hP1) (e9 ▸ hD1) hS1 hL
theorem vr_bast (C : nj_C G cc nL own rm) {q n : Nat} {f : Nat → Int32} {i : Int32} {x : Int32} (hd : nj_dc cc pc .bastore pc') (h1 : pc + 1 = pc') (he : hp[q]? = some (.inl (2, n, .inl f))) (hin : vp_in i n) (hs : hp.set q (.inl (2, n, .inl (upd f i.toNatClampNeg (vp_nar .byte x)))) = hp') (k : nj_V G ad kc ks pc' ls st hp') : nj_V G ad kc ks pc ls (.int x :: .int i :: .ref q :: st) hp := by
  obtain ⟨⟨p, l, e, R, s, m⟩, ⟨args, below, meth, c, Q⟩, ⟨D, dT, A, sA⟩⟩ := G
  obtain ⟨hx, hb, hml, hown, hts, hR, ⟨hK, hNe, hSt⟩, hlk, hA⟩ := C
  intro H locs lm hsa hP hD hS hL
  obtain ⟨n1, h, h2⟩ := hd
  have e1 : n1 = 1 := by omega
  subst e1
  subst h1
  refine va_bast hx hb hK hP hD hS q 2 (nj_pw_at he) rfl hin h (fun H1 locs1 hP1 hD1 hS1 => ?_)
  have e9 : (nj_pw ad dT hp).set q (ad q, .inl (dT 2, n, .inl (upd f i.toNatClampNeg (vp_nar .byte x)))) = nj_pw ad dT hp' := by
    rw [← hs, ← nj_pw_set]
    rfl
  exact k H1 locs1 lm hsa (e9 ▸ hP1) (e9 ▸ hD1) hS1 hL
theorem vr_last (C : nj_C G cc nL own rm) {q n : Nat} {f : Nat → Int64} {i : Int32} {x : Int64} (hd : nj_dc cc pc .lastore pc') (h1 : pc + 1 = pc') (he : hp[q]? = some (.inl (1, n, .inr (.inl f)))) (hin : vp_in i n) (hs : hp.set q (.inl (1, n, .inr (.inl (vp_updL f i.toNatClampNeg x)))) = hp') (k : nj_V G ad kc ks pc' ls st hp') : nj_V G ad kc ks pc ls (.long x :: .int i :: .ref q :: st) hp := by
  obtain ⟨⟨p, l, e, R, s, m⟩, ⟨args, below, meth, c, Q⟩, ⟨D, dT, A, sA⟩⟩ := G
  obtain ⟨hx, hb, hml, hown, hts, hR, ⟨hK, hNe, hSt⟩, hlk, hA⟩ := C
  intro H locs lm hsa hP hD hS hL
  obtain ⟨n1, h, h2⟩ := hd
  have e1 : n1 = 1 := by omega
  subst e1
  subst h1
  refine va_last hx hb hK hP hD hS q 1 (nj_pw_at he) rfl hin h (fun H1 locs1 hP1 hD1 hS1 => ?_)
  have e9 : (nj_pw ad dT hp).set q (ad q, .inl (dT 1, n, .inr (.inl (vp_updL f i.toNatClampNeg x)))) = nj_pw ad dT hp' := by
    rw [← hs, ← nj_pw_set]
    rfl
  exact k H1 locs1 lm hsa (e9 ▸ hP1) (e9 ▸ hD1) hS1 hL
theorem vr_sld0 (C : nj_C G cc nL own rm) {i : Int32} (hd : nj_dc cc pc .caload pc') (h1 : pc + 1 = pc') (hin : vp_in i 6) (k : nj_V G ad kc ks pc' ls (.int (nj_kl i.toNatClampNeg) :: st) hp) : nj_V G ad kc ks pc ls (.int i :: .ref 1000 :: st) hp := by
  obtain ⟨⟨p, l, e, R, s, m⟩, ⟨args, below, meth, c, Q⟩, ⟨D, dT, A, sA⟩⟩ := G
  obtain ⟨hx, hb, hml, hown, hts, hR, ⟨hK, hNe, hSt⟩, hlk, hA⟩ := C
  intro H locs lm hsa hP hD hS hL
  obtain ⟨n1, h, h2⟩ := hd
  have e1 : n1 = 1 := by omega
  subst e1
  subst h1
  have e9 : ad 1000 = sA 0 := hsa 0
  show W p l e R s m args below meth c H locs kc ks Q (F0 m pc lm (.int i :: .ref (ad 1000) :: st.map (nj_pv ad)))
  rw [e9]
  exact va_tc hx hb hSt.1.2 hS hin rfl h (k H locs lm hsa hP hD hS hL)
theorem vr_sld1 (C : nj_C G cc nL own rm) {i : Int32} (hd : nj_dc cc pc .iaload pc') (h1 : pc + 1 = pc') (hin : vp_in i 6) (k : nj_V G ad kc ks pc' ls (.int (nj_kv i.toNatClampNeg) :: st) hp) : nj_V G ad kc ks pc ls (.int i :: .ref 1001 :: st) hp := by
  obtain ⟨⟨p, l, e, R, s, m⟩, ⟨args, below, meth, c, Q⟩, ⟨D, dT, A, sA⟩⟩ := G
  obtain ⟨hx, hb, hml, hown, hts, hR, ⟨hK, hNe, hSt⟩, hlk, hA⟩ := C
  intro H locs lm hsa hP hD hS hL
  obtain ⟨n1, h, h2⟩ := hd
  have e1 : n1 = 1 := by omega
  subst e1
  subst h1
  have e9 : ad 1001 = sA 1 := hsa 1
  show W p l e R s m args below meth c H locs kc ks Q (F0 m pc lm (.int i :: .ref (ad 1001) :: st.map (nj_pv ad)))
  rw [e9]
  exact va_ti hx hb hSt.2.1.2 hS hin rfl h (k H locs lm hsa hP hD hS hL)
theorem vr_sld2 (C : nj_C G cc nL own rm) {i : Int32} (hd : nj_dc cc pc .iaload pc') (h1 : pc + 1 = pc') (hin : vp_in i 7) (k : nj_V G ad kc ks pc' ls (.int (nj_fa i.toNatClampNeg) :: st) hp) : nj_V G ad kc ks pc ls (.int i :: .ref 1002 :: st) hp := by
  obtain ⟨⟨p, l, e, R, s, m⟩, ⟨args, below, meth, c, Q⟩, ⟨D, dT, A, sA⟩⟩ := G
  obtain ⟨hx, hb, hml, hown, hts, hR, ⟨hK, hNe, hSt⟩, hlk, hA⟩ := C
  intro H locs lm hsa hP hD hS hL
  obtain ⟨n1, h, h2⟩ := hd
  have e1 : n1 = 1 := by omega
  subst e1
  subst h1
  have e9 : ad 1002 = sA 2 := hsa 2
  show W p l e R s m args below meth c H locs kc ks Q (F0 m pc lm (.int i :: .ref (ad 1002) :: st.map (nj_pv ad)))
  rw [e9]
  exact va_ti hx hb hSt.2.2.2 hS hin rfl h (k H locs lm hsa hP hD hS hL)
theorem vr_gsN0 (C : nj_C G cc nL own rm) (ho : own = "NobodyJoins$Reader") (hd : nj_dc cc pc (.getstatic 70) pc') (h1 : pc + 3 = pc') (k : nj_V G ad kc ks pc' ls (.ref 1000 :: st) hp) : nj_V G ad kc ks pc ls st hp := by
  obtain ⟨⟨p, l, e, R, s, m⟩, ⟨args, below, meth, c, Q⟩, ⟨D, dT, A, sA⟩⟩ := G
  obtain ⟨hx, hb, hml, hown, hts, hR, ⟨hK, hNe, hSt⟩, hlk, hA⟩ := C
  intro H locs lm hsa hP hD hS hL
  subst ho
  obtain ⟨n1, h, h2⟩ := hd
  have e1 : n1 = 3 := by omega
  subst e1
  subst h1
  have e9 : ad 1000 = sA 0 := hsa 0
  refine va_getsN hx hb hSt.1.1 hS hown (va_Nw.use rfl hNe.1) (fun _ z => z) h ?_
  rw [← e9]
  exact k H locs lm hsa hP hD hS hL
theorem vr_gsN1 (C : nj_C G cc nL own rm) (ho : own = "NobodyJoins$Club") (hd : nj_dc cc pc (.getstatic 50) pc') (h1 : pc + 3 = pc') (k : nj_V G ad kc ks pc' ls (.ref 1001 :: st) hp) : nj_V G ad kc ks pc ls st hp := by
  obtain ⟨⟨p, l, e, R, s, m⟩, ⟨args, below, meth, c, Q⟩, ⟨D, dT, A, sA⟩⟩ := G
  obtain ⟨hx, hb, hml, hown, hts, hR, ⟨hK, hNe, hSt⟩, hlk, hA⟩ := C
  intro H locs lm hsa hP hD hS hL
  subst ho
  obtain ⟨n1, h, h2⟩ := hd
  have e1 : n1 = 3 := by omega
  subst e1
  subst h1
  have e9 : ad 1001 = sA 1 := hsa 1
  refine va_getsN hx hb hSt.2.1.1 hS hown (va_Nw.use rfl hNe.2.1) (fun _ z => z) h ?_
  rw [← e9]
  exact k H locs lm hsa hP hD hS hL
theorem vr_gsN2 (C : nj_C G cc nL own rm) (ho : own = "NobodyJoins$Sums") (hd : nj_dc cc pc (.getstatic 20) pc') (h1 : pc + 3 = pc') (k : nj_V G ad kc ks pc' ls (.ref 1002 :: st) hp) : nj_V G ad kc ks pc ls st hp := by
  obtain ⟨⟨p, l, e, R, s, m⟩, ⟨args, below, meth, c, Q⟩, ⟨D, dT, A, sA⟩⟩ := G
  obtain ⟨hx, hb, hml, hown, hts, hR, ⟨hK, hNe, hSt⟩, hlk, hA⟩ := C
  intro H locs lm hsa hP hD hS hL
  subst ho
  obtain ⟨n1, h, h2⟩ := hd
  have e1 : n1 = 3 := by omega
  subst e1
  subst h1
  have e9 : ad 1002 = sA 2 := hsa 2
  refine va_getsN hx hb hSt.2.2.1 hS hown (va_Nw.use rfl hNe.2.2.1) (fun _ z => z) h ?_
  rw [← e9]
  exact k H locs lm hsa hP hD hS hL
theorem vr_gs2 (C : nj_C G cc nL own rm) (ho : own = "NobodyJoins") (hd : nj_dc cc pc (.getstatic 250) pc') (h1 : pc + 3 = pc') (hw : Cond.fieldLink "NobodyJoins" 250 "NobodyJoins" "FACTORIALS" "[I" ∈ nj_T0) (k : nj_V G ad kc ks pc' ls (.ref 1002 :: st) hp) : nj_V G ad kc ks pc ls st hp := by
  obtain ⟨⟨p, l, e, R, s, m⟩, ⟨args, below, meth, c, Q⟩, ⟨D, dT, A, sA⟩⟩ := G
  obtain ⟨hx, hb, hml, hown, hts, hR, ⟨hK, hNe, hSt⟩, hlk, hA⟩ := C
  intro H locs lm hsa hP hD hS hL
  subst ho
  obtain ⟨n1, h, h2⟩ := hd
  have e1 : n1 = 3 := by omega
  subst e1
  subst h1
  have e9 : ad 1002 = sA 2 := hsa 2
  refine va_gets hx hb hSt.2.2.1 hS hown (hts _ hw) (fun _ z => z) h ?_
  rw [← e9]
  exact k H locs lm hsa hP hD hS hL
end NjRows
end
section
/-! contracts and calls over nj_V -/
def nj_A (ad : Nat → Nat) (n sz : Nat) : Nat → Prop := fun q => (∃ k, k < n ∧ q = ad k) ∨ sz ≤ q
def nj_Pre (D : va_G) (dT : Nat → ClassId) (sA ad : Nat → Nat) (sz : Nat) (hp : List va_E) (as : List Value) : Array Value → State → Prop := fun v U => v = (as.map (nj_pv ad)).toArray ∧ U.heap.size = sz ∧ nj_Inv D dT sA (nj_A ad hp.length sz) U U.heap ∧ va_P D nj_cls (nj_pw ad dT hp) U.heap ∧ va_D (fun _ => True) (nj_pw ad dT hp) ∧ ∀ j, ad (1000 + j) = sA j
def nj_Post (D : va_G) (dT : Nat → ClassId) (A : Nat → Prop) (ad : Nat → Nat) (r : Option Value) (hp' : List va_E) : Array Value → State → Outcome → State → Prop := fun _ st oc t => oc = .returned (r.map (nj_pv ad)) ∧ va_P D nj_cls (nj_pw ad dT hp') t.heap ∧ va_F A st t
def nj_Con (y : MethodName) (cc : ByteArray) (nL : Nat) (ret : Option FieldType) (rm : Room) (hp : List va_E) (as : List Value) (r : Option Value) (hp' : List va_E) : Prop :=
  hp'.length = hp.length ∧ ∀ (l : Launch) (D : va_G) (dT : Nat → ClassId) (sA ad : Nat → Nat) (sz : Nat), Met l y (.code y cc nL ret :: nj_T0) rm (nj_Pre D dT sA ad sz hp as) (nj_Post D dT (nj_A ad hp.length sz) ad r hp') 0 0 (nj_A ad hp.length sz)
def nj_Rt (G : nj_G) (ad : Nat → Nat) (r : Option Value) (hp' : List va_E) (ret : Option FieldType) : Prop :=
  match G with
  | ((p, l, e, R, s, m), (args, below, meth, c, Q), (D, dT, A, sA)) => Q = MQ below (nj_Post D dT A ad r hp') args s 0 0 A ∧ meth.sig.returnType = ret
-- the locals at a method's entry
def nj_en : List Value → List (Option Value)
  | [] => []
  | .long x :: r => some (.long x) :: none :: nj_en r
  | .double x :: r => some (.double x) :: none :: nj_en r
  | v :: r => some v :: nj_en r
theorem nj_en_cat1 (v : Value) (r : List Value) (h : ¬ v.category = 2) : nj_en (v :: r) = some v :: nj_en r := by
  cases v <;> first | rfl | (simp [Value.category] at h)
theorem nj_en_cat2 (v : Value) (r : List Value) (h : v.category = 2) : nj_en (v :: r) = some v :: none :: nj_en r := by
  cases v <;> first | rfl | (simp [Value.category] at h)
theorem nj_en_of (ad : Nat → Nat) : ∀ (as : List Value) (i j : Nat) (v : Value), (nj_en as)[j]? = some (some v) → (i + j, nj_pv ad v) ∈ lv_args i (as.map (nj_pv ad))
  | [], i, j, v, h => by simp [nj_en] at h
  | a :: r, i, j, v, h => by
    rw [List.map_cons, lv_args, nj_cat]
    by_cases hc : a.category = 2
    · rw [nj_en_cat2 a r hc] at h
      rw [if_pos hc]
      match j, h with
      | 0, h =>
        simp only [List.getElem?_cons_zero, Option.some.injEq] at h
        subst h
        exact List.mem_cons_self
      | 1, h => simp at h
      | j + 2, h =>
        simp only [List.getElem?_cons_succ] at h
        have := nj_en_of ad r (i + 2) j v h
        rw [show i + (j + 2) = i + 2 + j by omega]
        exact List.mem_cons_of_mem _ this
    · rw [nj_en_cat1 a r hc] at h
      rw [if_neg hc]
      match j, h with
      | 0, h =>
        simp only [List.getElem?_cons_zero, Option.some.injEq] at h
        subst h
        exact List.mem_cons_self
      | j + 1, h =>
        simp only [List.getElem?_cons_succ] at h
        have := nj_en_of ad r (i + 1) j v h
        rw [show i + (j + 1) = i + 1 + j by omega]
        exact List.mem_cons_of_mem _ this
theorem nj_en_len (ad : Nat → Nat) : ∀ as : List Value, (lg_sl (as.map (nj_pv ad))).length = (nj_en as).length
  | [] => rfl
  | a :: r => by
    have ih := nj_en_len ad r
    simp only [lg_sl] at ih
    by_cases hc : a.category = 2
    · rw [nj_en_cat2 a r hc]
      simp only [lg_sl, List.map_cons, List.flatMap_cons, nj_cat, hc, if_true, List.length_append, List.length_cons, List.length_nil, ih]
      omega
    · rw [nj_en_cat1 a r hc]
      simp only [lg_sl, List.map_cons, List.flatMap_cons, nj_cat, if_neg hc, List.length_append, List.length_cons, List.length_nil, ih]
      omega
theorem nj_en_none (as : List Value) (n j : Nat) (v : Value) (h : (nj_en as ++ List.replicate n none)[j]? = some (some v)) : (nj_en as)[j]? = some (some v) := by
  by_cases hl : j < (nj_en as).length
  · rwa [List.getElem?_append_left hl] at h
  · rw [List.getElem?_append_right (by omega), List.getElem?_replicate] at h
    split at h <;> cases h
/-- a contract out of a walk -/
theorem nj_con {y : MethodName} {cc : ByteArray} {nL : Nat} {ret : Option FieldType} {rm : Room} {hp : List va_E} {as : List Value} {r : Option Value} {hp' : List va_E} (hy : plainName y.cls = true) (hlen : hp'.length = hp.length) (k : Nat) (hen : (nj_en as).length + k = nL)
    (body : ∀ (G : nj_G) (ad : Nat → Nat), nj_C G cc nL y.cls rm → nj_Rt G ad r hp' ret → nj_V G ad 0 0 0 (nj_en as ++ List.replicate k none) [] hp) : nj_Con y cc nL ret rm hp as r hp' := by
  refine ⟨hlen, fun l D dT sA ad sz => ?_⟩
  refine Met.ofW (cc := cc) (maxL := nL) (ret := ret) hy rfl ?_
  intro p e s m args below meth c s₁ B hml hv
  obtain ⟨rfl, hsz, hI, hP, hD0, hsa⟩ := hv
  have hts := atoms_spec (ws := .code y cc nL ret :: nj_T0) B.pre
  have hown : s.vm.findClass y.cls = some m.cls := findClass_of_methodNamed B.named
  subst hsz
  have h := body ((p, l, e, rm, s, m), (((as.map (nj_pv ad)).toArray), below, meth, c, MQ below (nj_Post D dT (nj_A ad hp.length s.heap.size) ad r hp') ((as.map (nj_pv ad)).toArray) s 0 0 (nj_A ad hp.length s.heap.size)), (D, dT, nj_A ad hp.length s.heap.size, sA)) ad
    ⟨B.exec, B.bytes, hml, hown, fun w hw => hts w (List.mem_cons_of_mem _ hw), rfl, hI, B.notSynchronized, fun q hq => Or.inr hq⟩ ⟨rfl, B.returns⟩
  have hle : (lg_sl (as.map (nj_pv ad))).length ≤ nL := by rw [nj_en_len]; omega
  have hl := lv_entry (as.map (nj_pv ad)) (n := nL) hle
  rw [lg_entry_eq]
  refine h s.heap [] _ hsa hP ?_ va_S.rf ⟨by rw [hml]; exact hl.1, hl.2.1, fun j v hv => ?_⟩
  · refine ⟨hD0.1, fun i q hq => ?_⟩
    obtain ⟨e0, h1, rfl⟩ := nj_pw_of hq
    exact Or.inl ⟨i, (List.getElem?_eq_some_iff.mp h1).1, rfl⟩
  · have h1 := nj_en_of ad as 0 j v (nj_en_none as k j v hv)
    rw [Nat.zero_add] at h1
    exact hl.2.2 _ h1
section NjRet
variable {G : nj_G} {cc : ByteArray} {nL : Nat} {own : String} {rm : Room} {ad : Nat → Nat} {pc pc' : Nat} {ls : List (Option Value)} {hp : List va_E}

theorem vr_iret {v : Int32} (C : nj_C G cc nL own rm) (hq : nj_Rt G ad (some (.int v)) hp (some .int)) (hd : nj_dc cc pc .ireturn pc') (h1 : pc + 1 = pc') : nj_V G ad 0 0 pc ls [.int v] hp := by
  obtain ⟨⟨p, l, e, R, s, m⟩, ⟨args, below, meth, c, Q⟩, ⟨D, dT, A, sA⟩⟩ := G
  obtain ⟨hx, hb, hml, hown, hts, hR, ⟨hK, hNe, hSt⟩, hlk, hA⟩ := C
  obtain ⟨hq, hr⟩ := hq
  intro H locs lm hsa hP hD hS hL
  subst hq
  obtain ⟨n1, h, h2⟩ := hd
  have e1 : n1 = 1 := by omega
  subst e1
  exact W.iret hx hb hr (fun t ht hW => ⟨rfl, by rw [ht]; exact hP, hS.F ht⟩) hS.2.2 h hlk
theorem vr_lret {v : Int64} (C : nj_C G cc nL own rm) (hq : nj_Rt G ad (some (.long v)) hp (some .long)) (hd : nj_dc cc pc .lreturn pc') (h1 : pc + 1 = pc') : nj_V G ad 0 0 pc ls [.long v] hp := by
  obtain ⟨⟨p, l, e, R, s, m⟩, ⟨args, below, meth, c, Q⟩, ⟨D, dT, A, sA⟩⟩ := G
  obtain ⟨hx, hb, hml, hown, hts, hR, ⟨hK, hNe, hSt⟩, hlk, hA⟩ := C
  obtain ⟨hq, hr⟩ := hq
  intro H locs lm hsa hP hD hS hL
  subst hq
  obtain ⟨n1, h, h2⟩ := hd
  have e1 : n1 = 1 := by omega
  subst e1
  exact W.lret hx hb hr (fun t ht hW => ⟨rfl, by rw [ht]; exact hP, hS.F ht⟩) hS.2.2 h hlk
theorem vr_zret (b : Bool) (C : nj_C G cc nL own rm) (hq : nj_Rt G ad (some (.int (nj_b b))) hp (some .boolean)) (hd : nj_dc cc pc .ireturn pc') (h1 : pc + 1 = pc') : nj_V G ad 0 0 pc ls [.int (nj_b b)] hp := by
  obtain ⟨⟨p, l, e, R, s, m⟩, ⟨args, below, meth, c, Q⟩, ⟨D, dT, A, sA⟩⟩ := G
  obtain ⟨hx, hb, hml, hown, hts, hR, ⟨hK, hNe, hSt⟩, hlk, hA⟩ := C
  obtain ⟨hq, hr⟩ := hq
  intro H locs lm hsa hP hD hS hL
  subst hq
  obtain ⟨n1, h, h2⟩ := hd
  have e1 : n1 = 1 := by omega
  subst e1
  exact W.zret hx hb hr (by cases b <;> rfl) (fun t ht hW => ⟨rfl, by rw [ht]; exact hP, hS.F ht⟩) hS.2.2 h hlk
theorem vr_vret (C : nj_C G cc nL own rm) (hq : nj_Rt G ad none hp none) (hd : nj_dc cc pc .return_ pc') (h1 : pc + 1 = pc') : nj_V G ad 0 0 pc ls [] hp := by
  obtain ⟨⟨p, l, e, R, s, m⟩, ⟨args, below, meth, c, Q⟩, ⟨D, dT, A, sA⟩⟩ := G
  obtain ⟨hx, hb, hml, hown, hts, hR, ⟨hK, hNe, hSt⟩, hlk, hA⟩ := C
  obtain ⟨hq, hr⟩ := hq
  intro H locs lm hsa hP hD hS hL
  subst hq
  obtain ⟨n1, h, h2⟩ := hd
  have e1 : n1 = 1 := by omega
  subst e1
  exact W.vret hx hb hr (fun t ht hW => ⟨rfl, by rw [ht]; exact hP, hS.F ht⟩) hS.2.2 h hlk
end NjRet
-- a part of a world under other names
def nj_rn (is : List Nat) (k : Nat) : Nat := if k < 1000 then is.getD k 0 else k
def nj_re (is : List Nat) (e : va_E) : va_E := nj_pe (nj_rn is) (fun t => t) e
def nj_emb (hp : List va_E) (is : List Nat) (hpc : List va_E) : Prop := is.map (fun k => hp[k]?) = hpc.map (fun e => some (nj_re is e))
def nj_patch : List va_E → List Nat → List va_E → List va_E
  | hp, k :: is, e :: es => nj_patch (hp.set k e) is es
  | hp, _, _ => hp
theorem nj_pv_pv (f g : Nat → Nat) (v : Value) : nj_pv f (nj_pv g v) = nj_pv (fun k => f (g k)) v := by cases v <;> rfl
theorem nj_px_px (f g : Nat → Nat) (x : nj_AR) : nj_px f (nj_px g x) = nj_px (fun k => f (g k)) x := by
  rcases x with x | x | x | x | x <;> first | rfl | (simp only [nj_px, Option.map_map]; rfl)
theorem nj_pe_re (ad : Nat → Nat) (dT : Nat → ClassId) (is : List Nat) (e : va_E) : nj_pe ad dT (nj_re is e) = nj_pe (fun k => ad (nj_rn is k)) dT e := by
  rcases e with ⟨t, n, x⟩ | ⟨c, fs⟩
  · simp only [nj_re, nj_pe, nj_px_px]
  · simp only [nj_re, nj_pe, List.map_map]
    congr 2
    apply List.map_congr_left
    intro v _
    exact nj_pv_pv _ _ v
theorem nj_patch_len : ∀ (is : List Nat) (es hp : List va_E), (nj_patch hp is es).length = hp.length
  | [], es, hp => by cases es <;> rfl
  | k :: is, [], hp => rfl
  | k :: is, e :: es, hp => by rw [nj_patch, nj_patch_len is es, List.length_set]
theorem nj_patch_out : ∀ (is : List Nat) (es hp : List va_E) (k : Nat), k ∉ is → (nj_patch hp is es)[k]? = hp[k]?
  | [], es, hp, k, h => by cases es <;> rfl
  | i :: is, [], hp, k, h => rfl
  | i :: is, e :: es, hp, k, h => by
    rw [nj_patch, nj_patch_out is es _ k (fun q => h (List.mem_cons_of_mem _ q)), List.getElem?_set_ne (fun q => h (by rw [q]; exact List.mem_cons_self))]
theorem nj_patch_in : ∀ (is : List Nat) (es hp : List va_E) (j k : Nat) (e : va_E), va_nd is = true → is[j]? = some k → es[j]? = some e → k < hp.length → (nj_patch hp is es)[k]? = some e
  | [], es, hp, j, k, e, hn, h1, h2, hl => by simp at h1
  | i :: is, [], hp, j, k, e, hn, h1, h2, hl => by simp at h2
  | i :: is, x :: es, hp, j, k, e, hn, h1, h2, hl => by
    simp only [va_nd, Bool.and_eq_true, decide_eq_true_eq] at hn
    cases j with
    | zero =>
      simp only [List.getElem?_cons_zero, Option.some.injEq] at h1 h2
      subst h1; subst h2
      rw [nj_patch, nj_patch_out is es _ i hn.1, List.getElem?_set_self hl]
    | succ j =>
      simp only [List.getElem?_cons_succ] at h1 h2
      rw [nj_patch]
      exact nj_patch_in is es _ j k e hn.2 h1 h2 (by rw [List.length_set]; exact hl)
theorem nj_emb_at {hp hpc : List va_E} {is : List Nat} (h : nj_emb hp is hpc) {j : Nat} {e : va_E} (he : hpc[j]? = some e) : ∃ k, is[j]? = some k ∧ hp[k]? = some (nj_re is e) := by
  have h1 : (is.map (fun k => hp[k]?))[j]? = some (some (nj_re is e)) := by rw [h, List.getElem?_map, he]; rfl
  rw [List.getElem?_map] at h1
  cases hi : is[j]? with
  | none => rw [hi] at h1; cases h1
  | some k => rw [hi] at h1; exact ⟨k, rfl, Option.some.inj h1⟩
theorem nj_emb_len {hp hpc : List va_E} {is : List Nat} (h : nj_emb hp is hpc) : is.length = hpc.length := by
  have := congrArg List.length h
  simpa using this
theorem nj_patch_same {hp hpc : List va_E} {is : List Nat} (h : nj_emb hp is hpc) (hn : va_nd is = true) : nj_patch hp is (hpc.map (nj_re is)) = hp := by
  apply List.ext_getElem?
  intro k
  by_cases hk : k ∈ is
  · obtain ⟨j, hj⟩ := List.getElem?_of_mem hk
    have hl : j < hpc.length := by rw [← nj_emb_len h]; exact (List.getElem?_eq_some_iff.mp hj).1
    obtain ⟨k', h1, h2⟩ := nj_emb_at h (List.getElem?_eq_getElem hl)
    rw [hj] at h1
    cases h1
    rw [h2]
    exact nj_patch_in is _ hp j k _ hn hj (by rw [List.getElem?_map, List.getElem?_eq_getElem hl]; rfl) (List.getElem?_eq_some_iff.mp h2).1
  · exact nj_patch_out is _ hp k hk
theorem nj_rn_at {is : List Nat} {j k : Nat} (h : is[j]? = some k) (hj : j < 1000) : nj_rn is j = k := by
  rw [nj_rn, if_pos hj, List.getD_eq_getElem?_getD, h]; rfl
theorem nj_blind (D : va_G) (dT : Nat → ClassId) (sA ad : Nat → Nat) (sz : Nat) (hp : List va_E) (as : List Value) : FrameBlind (nj_Pre D dT sA ad sz hp as) := by
  intro a U g mk q
  obtain ⟨q0, q1, ⟨qK, qN, qS⟩, qP, qD, qa⟩ := q
  exact ⟨q0, q1, ⟨va_K.moved (u := U) (U := U.calling g mk a) (Vm.Alike.refl U.vm) qK, qN.same rfl, qS.moved (u := U) (U := U.calling g mk a) (Vm.Alike.refl U.vm)⟩, qP, qD, qa⟩
section NjCalls
variable {p : Program} {l : Launch} {e : Env} {R : Room} {s : State} {m : MethodId} {args : Array Value} {below : List Frame} {meth : Method} {c : Code} {H : Heap} {locs : List Loc} {kc ks : Nat} {Q : State → Prop}
variable {D : va_G} {dT : Nat → ClassId} {A : Nat → Prop} {sA ad : Nat → Nat} {hp hpc hpc' : List va_E} {is : List Nat} {as : List Value} {r : Option Value}
/-- the callee's start, at the call -/
theorem nj_start (hK : va_K D nj_cls (nj_tys dT) s) (hNe : nj_Ne s) (hSt : nj_St sA A s s.heap) (hA : ∀ q, s.heap.size ≤ q → A q) (hsa : ∀ j, ad (1000 + j) = sA j) (hP : va_P D nj_cls (nj_pw ad dT hp) H) (hD : va_D A (nj_pw ad dT hp)) (hS : va_S A s.heap H locs) (hemb : nj_emb hp is hpc) (hn : va_nd is = true) (hlen : is.length ≤ 1000) :
    (∀ U : State, U.heap = H → s.WarmedH U.vm → nj_Pre D dT sA (fun k => ad (nj_rn is k)) H.size hpc as (as.map (nj_pv (fun k => ad (nj_rn is k)))).toArray U) ∧ (∀ q, nj_A (fun k => ad (nj_rn is k)) hpc.length H.size q → A q) := by
  have hl := nj_emb_len hemb
  have at1 : ∀ (j : Nat) (e : va_E), hpc[j]? = some e → ∃ k, is[j]? = some k ∧ hp[k]? = some (nj_re is e) ∧ nj_rn is j = k := by
    intro j e he
    obtain ⟨k, h1, h2⟩ := nj_emb_at hemb he
    have hj : j < hpc.length := (List.getElem?_eq_some_iff.mp he).1
    exact ⟨k, h1, h2, nj_rn_at h1 (by omega)⟩
  have hsub : ∀ q, nj_A (fun k => ad (nj_rn is k)) hpc.length H.size q → A q := by
    intro q hq
    rcases hq with ⟨j, hj, rfl⟩ | hq
    · obtain ⟨k, h1, h2, h3⟩ := at1 j _ (List.getElem?_eq_getElem hj)
      have := hD.2 k _ (nj_pw_at h2)
      show A (ad (nj_rn is j))
      rw [h3]
      exact this
    · exact hA q (Nat.le_trans hS.1 hq)
  refine ⟨fun U hU hW => ⟨rfl, by rw [hU], ⟨va_K.moved hW.alike hK, hNe.warm hW, ?_⟩, ?_, ?_, fun j => ?_⟩, hsub⟩
  · rw [hU]
    exact ((hSt.kept (fun a h1 h2 => hS.2.1 a h1 h2)).narrow hsub).moved hW.alike
  · rw [hU]
    intro j q hq
    obtain ⟨e0, h1, rfl⟩ := nj_pw_of hq
    obtain ⟨k, h2, h3, h4⟩ := at1 j e0 h1
    have := hP k _ (nj_pw_at h3)
    rw [nj_pe_re] at this
    rw [h4]
    exact this
  · refine ⟨fun i j x y hi hj hxy => ?_, fun _ _ _ => trivial⟩
    obtain ⟨e1, h1, rfl⟩ := nj_pw_of hi
    obtain ⟨e2, h2, rfl⟩ := nj_pw_of hj
    obtain ⟨k1, a1, b1, c1⟩ := at1 i e1 h1
    obtain ⟨k2, a2, b2, c2⟩ := at1 j e2 h2
    simp only [c1, c2] at hxy
    have := hD.1 k1 k2 _ _ (nj_pw_at b1) (nj_pw_at b2) hxy
    subst this
    exact va_nd_inj is hn i j k1 a1 a2
  · show ad (nj_rn is (1000 + j)) = sA j
    rw [nj_rn, if_neg (by omega)]
    exact hsa j
/-- behind the call -/
theorem nj_behind {t : State} (hP : va_P D nj_cls (nj_pw ad dT hp) H) (hD : va_D A (nj_pw ad dT hp)) (hemb : nj_emb hp is hpc) (hn : va_nd is = true) (hlen : is.length ≤ 1000) (hl2 : hpc'.length = hpc.length)
    (hPt : va_P D nj_cls (nj_pw (fun k => ad (nj_rn is k)) dT hpc') t.heap) (hk : ∀ q : Nat, q < H.size → ¬ nj_A (fun k => ad (nj_rn is k)) hpc.length H.size q → t.heap[q]? = H[q]?) :
    va_P D nj_cls (nj_pw ad dT (nj_patch hp is (hpc'.map (nj_re is)))) t.heap ∧ va_D A (nj_pw ad dT (nj_patch hp is (hpc'.map (nj_re is)))) := by
  have hl := nj_emb_len hemb
  have at1 : ∀ (j : Nat), j < hpc.length → ∃ k, is[j]? = some k ∧ (∃ e, hp[k]? = some e) ∧ nj_rn is j = k := by
    intro j hj
    obtain ⟨k, h1, h2⟩ := nj_emb_at hemb (List.getElem?_eq_getElem hj)
    exact ⟨k, h1, ⟨_, h2⟩, nj_rn_at h1 (by omega)⟩
  constructor
  · intro k q hq
    obtain ⟨e0, h1, rfl⟩ := nj_pw_of hq
    by_cases hm : k ∈ is
    · obtain ⟨j, hj⟩ := List.getElem?_of_mem hm
      have hj2 : j < hpc.length := by rw [← hl]; exact (List.getElem?_eq_some_iff.mp hj).1
      obtain ⟨k', a1, ⟨e1, a2⟩, a3⟩ := at1 j hj2
      rw [hj] at a1
      cases a1
      have hj3 : hpc'[j]? = some hpc'[j] := List.getElem?_eq_getElem (by omega)
      have h4 := nj_patch_in is (hpc'.map (nj_re is)) hp j k _ hn hj (by rw [List.getElem?_map, hj3]; rfl) (List.getElem?_eq_some_iff.mp a2).1
      rw [h4] at h1
      cases h1
      have := hPt j _ (nj_pw_at hj3)
      rw [nj_pe_re]
      rw [← a3]
      exact this
    · rw [nj_patch_out is _ hp k hm] at h1
      have h2 := hP k _ (nj_pw_at h1)
      refine h2.kept (hk _ h2.lt (fun z => ?_))
      rcases z with ⟨j, hj, h5⟩ | z
      · obtain ⟨k', a1, ⟨e1, a2⟩, a3⟩ := at1 j hj
        simp only [a3] at h5
        have := hD.1 k k' _ _ (nj_pw_at h1) (nj_pw_at a2) h5
        subst this
        exact hm (List.mem_of_getElem? a1)
      · exact Nat.not_le.mpr h2.lt z
  · refine nj_D_of hD (fun k q hq => ?_) (fun _ z => z)
    obtain ⟨e0, h1, rfl⟩ := nj_pw_of hq
    have hk1 : k < hp.length := by rw [← nj_patch_len is (hpc'.map (nj_re is)) hp]; exact (List.getElem?_eq_some_iff.mp h1).1
    exact ⟨_, nj_pw_at (List.getElem?_eq_getElem hk1), rfl⟩
theorem nj_run {pc : Nat} {lm : Array Slot} {st0 rest : List Value} {a : Array Value} (hr : va_Run p l e R s m args below meth c H locs kc ks 0 0 (F0 m pc lm st0) rest (nj_Post D dT (nj_A (fun k => ad (nj_rn is k)) hpc.length H.size) (fun k => ad (nj_rn is k)) r hpc' a) (nj_A (fun k => ad (nj_rn is k)) hpc.length H.size))
    (hP : va_P D nj_cls (nj_pw ad dT hp) H) (hD : va_D A (nj_pw ad dT hp)) (hS : va_S A s.heap H locs) (hemb : nj_emb hp is hpc) (hn : va_nd is = true) (hlen : is.length ≤ 1000) (hl2 : hpc'.length = hpc.length) (hsub : ∀ q, nj_A (fun k => ad (nj_rn is k)) hpc.length H.size q → A q)
    (kk : ∀ (H1 : Heap) (locs1 : List Loc), va_P D nj_cls (nj_pw ad dT (nj_patch hp is (hpc'.map (nj_re is)))) H1 → va_D A (nj_pw ad dT (nj_patch hp is (hpc'.map (nj_re is)))) → va_S A s.heap H1 locs1 → W p l e R s m args below meth c H1 locs1 kc ks Q (F0 m (pc + 3) lm ((r.map (nj_pv (fun k => ad (nj_rn is k)))).toList ++ rest))) : W p l e R s m args below meth c H locs kc ks Q (F0 m pc lm st0) := by
  intro T hT X
  obtain ⟨v, st₀, t, T', L, h0, X', hL, e1, e2, ⟨hv, hPt, hz, hk⟩, go⟩ := hr T hT X
  cases hv
  rw [h0] at hz hk
  obtain ⟨hP1, hD1⟩ := nj_behind hP hD hemb hn hlen hl2 hPt hk
  obtain ⟨t2, a1, b1⟩ := kk T'.heap (locs ++ L) (by rw [e1]; exact hP1) hD1
    ⟨Nat.le_trans hS.1 (by rw [e1]; exact hz), fun q h1 h2 => by rw [e1, hk q (Nat.lt_of_lt_of_le h1 hS.1) (fun z => h2 (hsub q z))]; exact hS.2.1 q h1 h2, fun q hq => by
      rcases List.mem_append.mp hq with h | h
      · exact hS.2.2 q h
      · exact hsub _ (hL q h)⟩ T' rfl X'
  exact ⟨t2, go t2 a1, b1⟩
end NjCalls
/-- what the tables say of a method -/
def nj_MV (y : MethodName) (cy : ByteArray) (nLy : Nat) (rety : Option FieldType) (n : Nat) : Prop := .instanceMethod y ∈ nj_T0 ∧ .selects y.cls y y ∈ nj_T0 ∧ .initialized y.cls ∈ nj_T0 ∧ .code y cy nLy rety ∈ nj_T0 ∧ (y.cls ≠ "java/lang/invoke/MethodHandle" ∧ y.cls ≠ "java/lang/invoke/VarHandle" ∧ (parseMethodDescriptor y.desc).map (fun d => d.parameters.length) = some n)
def nj_MS (y : MethodName) (cy : ByteArray) (nLy : Nat) (rety : Option FieldType) (n : Nat) : Prop := .static y ∈ nj_T0 ∧ .initialized y.cls ∈ nj_T0 ∧ .code y cy nLy rety ∈ nj_T0 ∧ (y.cls ≠ "java/lang/invoke/MethodHandle" ∧ y.cls ≠ "java/lang/invoke/VarHandle" ∧ (parseMethodDescriptor y.desc).map (fun d => d.parameters.length) = some n)
section NjCallRows
variable {G : nj_G} {cc : ByteArray} {nL : Nat} {own : String} {rm : Room} {ad : Nat → Nat} {kc ks pc pc' : Nat} {ls : List (Option Value)} {st : List Value} {hp hp' : List va_E}
variable {y : MethodName} {cy : ByteArray} {nLy n idx : Nat} {rety : Option FieldType} {rmc : Room} {hpc hpc' : List va_E} {as : List Value} {r : Option Value}
theorem nj_stk (ad : Nat → Nat) (is : List Nat) (as : List Value) (st : List Value) : ((as.map (nj_pv (nj_rn is))).reverse ++ st).map (nj_pv ad) = (as.map (nj_pv (fun k => ad (nj_rn is k)))).reverse ++ st.map (nj_pv ad) := by
  rw [List.map_append, List.map_reverse, List.map_map]
  congr 2
  apply List.map_congr_left
  intro v _
  exact nj_pv_pv _ _ v
theorem nj_stk2 (ad : Nat → Nat) (is : List Nat) (r : Option Value) (st : List Value) : ((r.map (nj_pv (nj_rn is))).toList ++ st).map (nj_pv ad) = (r.map (nj_pv (fun k => ad (nj_rn is k)))).toList ++ st.map (nj_pv ad) := by
  cases r with
  | none => rfl
  | some v => simp [nj_pv_pv]
theorem nj_cats (ad : Nat → Nat) (st : List Value) : ((st.map (nj_pv ad)).map fun v => v.category).sum = (st.map fun v => v.category).sum := by
  rw [List.map_map]
  congr 1
  apply List.map_congr_left
  intro v _
  exact nj_cat ad v
theorem vr_callV (is : List Nat) (C : nj_C G cc nL own rm) (hd : nj_dc cc pc (.invokevirtual idx) pc') (h1 : pc + 3 = pc') (hlk : .methodLink own idx y ∈ nj_T0) (hy : nj_MV y cy nLy rety n) (hM : nj_Con y cy nLy rety rmc hpc (.ref 0 :: as) r hpc')
    (hemb : nj_emb hp is hpc) (hn : va_nd is = true) (hlen : Nat.ble is.length 1000 = true) {ci : Nat} {fs : List Value} (hrc : hpc[0]? = some (.inr (ci, fs))) {q : vw_C} (hcl : nj_cls[ci]? = some q) (hq : q.1 = y.cls) (hna : as.length = n)
    (hst : Nat.ble ((st.map fun v => v.category).sum) 8 = true) (hrm : rmc.cells = 0 ∧ rmc.slots = 0 ∧ Nat.ble (rmc.frames + 1) rm.frames = true ∧ Nat.ble (8 + (nLy + 11) + rmc.locals) rm.locals = true) (hkc : kc ≤ rm.cells) (hks : ks ≤ rm.slots)
    (k : nj_V G ad kc ks pc' ls ((r.map (nj_pv (nj_rn is))).toList ++ st) (nj_patch hp is (hpc'.map (nj_re is)))) : nj_V G ad kc ks pc ls ((as.map (nj_pv (nj_rn is))).reverse ++ .ref (nj_rn is 0) :: st) hp := by
  obtain ⟨⟨p, l, e, R, s, m⟩, ⟨args, below, meth, c, Q⟩, ⟨D, dT, A, sA⟩⟩ := G
  obtain ⟨hx, hb, hml, hown, hts, hR, ⟨hK, hNe, hSt⟩, hlk0, hA⟩ := C
  intro H locs lm hsa hP hD hS hL
  subst hR
  obtain ⟨n1, h, h2⟩ := hd
  have e1 : n1 = 3 := by omega
  subst e1; subst h1
  obtain ⟨y1, y2, y3, y4, y5⟩ := hy
  obtain ⟨r1, r2, r3, r4⟩ := hrm
  have hlen := Nat.le_of_ble_eq_true hlen
  obtain ⟨hs1, hsub⟩ := nj_start (as := .ref 0 :: as) hK hNe hSt hA hsa hP hD hS hemb hn hlen
  have cw : CallW R s args own y.cls idx y cy nLy rety (.code y cy nLy rety :: nj_T0) rmc 0 0 n := by
    refine cwV n hts (nj_goodIn fun w hw => ?_) rfl r1 r2 ⟨rfl, y5⟩ ⟨Nat.le_of_ble_eq_true r3, Nat.le_of_ble_eq_true r4⟩
    simp only [wsV, List.mem_append, List.mem_cons, List.not_mem_nil, or_false] at hw
    rcases hw with (rfl | rfl | rfl | rfl) | rfl | hw
    · exact hlk
    · exact y1
    · exact y2
    · exact y3
    · exact y4
    · exact hw
  obtain ⟨k0, g1, g2⟩ := nj_emb_at hemb hrc
  have e0 : nj_rn is 0 = k0 := nj_rn_at g1 (by decide)
  have hrecv : ∃ cellB : Cell, H[ad (nj_rn is 0)]? = some cellB ∧ cellB.vm.isStatics = false ∧ s.vm.findClass y.cls = some cellB.cls := by
    rw [e0, ← hq]
    have g3 := nj_pw_at (ad := ad) (dT := dT) g2
    exact va_recv hK hP hcl g3
  have hk : List.map (nj_pv ad) ((as.map (nj_pv (nj_rn is))).reverse ++ .ref (nj_rn is 0) :: st) = (as.map (nj_pv (fun k => ad (nj_rn is k)))).reverse ++ .ref (ad (nj_rn is 0)) :: st.map (nj_pv ad) := nj_stk ad is as (.ref (nj_rn is 0) :: st)
  rw [hk]
  refine nj_run (va_runV (As := as.map (nj_pv (fun k => ad (nj_rn is k)))) (rest := st.map (nj_pv ad)) ⟨hx, hb, hml, hown, hts⟩ (hM.2 l D dT sA (fun k => ad (nj_rn is k)) H.size) cw ⟨nj_blind _ _ _ _ _ _ _, hrecv, hs1⟩ rfl (by simpa using hna) (hL.1.trans hml) rfl (lv_room (by rw [nj_cats]; exact Nat.le_of_ble_eq_true hst)) h ⟨hkc, hks⟩) hP hD hS hemb hn hlen hM.1 hsub (fun H1 locs1 hP1 hD1 hS1 => ?_)
  have := k H1 locs1 lm hsa hP1 hD1 hS1 hL
  rwa [nj_stk2] at this
theorem vr_callS (is : List Nat) (C : nj_C G cc nL own rm) (hd : nj_dc cc pc (.invokestatic idx) pc') (h1 : pc + 3 = pc') (hlk : .methodLink own idx y ∈ nj_T0) (hy : nj_MS y cy nLy rety n) (hM : nj_Con y cy nLy rety rmc hpc as r hpc')
    (hemb : nj_emb hp is hpc) (hn : va_nd is = true) (hlen : Nat.ble is.length 1000 = true) (hna : as.length = n)
    (hst : Nat.ble ((st.map fun v => v.category).sum) 8 = true) (hrm : rmc.cells = 0 ∧ rmc.slots = 0 ∧ Nat.ble (rmc.frames + 1) rm.frames = true ∧ Nat.ble (8 + (nLy + 11) + rmc.locals) rm.locals = true) (hkc : kc ≤ rm.cells) (hks : ks ≤ rm.slots)
    (k : nj_V G ad kc ks pc' ls ((r.map (nj_pv (nj_rn is))).toList ++ st) (nj_patch hp is (hpc'.map (nj_re is)))) : nj_V G ad kc ks pc ls ((as.map (nj_pv (nj_rn is))).reverse ++ st) hp := by
  obtain ⟨⟨p, l, e, R, s, m⟩, ⟨args, below, meth, c, Q⟩, ⟨D, dT, A, sA⟩⟩ := G
  obtain ⟨hx, hb, hml, hown, hts, hR, ⟨hK, hNe, hSt⟩, hlk0, hA⟩ := C
  intro H locs lm hsa hP hD hS hL
  subst hR
  obtain ⟨n1, h, h2⟩ := hd
  have e1 : n1 = 3 := by omega
  subst e1; subst h1
  obtain ⟨y1, y3, y4, y5⟩ := hy
  obtain ⟨r1, r2, r3, r4⟩ := hrm
  have hlen := Nat.le_of_ble_eq_true hlen
  obtain ⟨hs1, hsub⟩ := nj_start (as := as) hK hNe hSt hA hsa hP hD hS hemb hn hlen
  have cw : CallB R s args own idx y cy nLy rety (.code y cy nLy rety :: nj_T0) rmc 0 0 n ∧ (Cond.static y).before args s = true := by
    refine va_cwS n hts (nj_goodIn fun w hw => ?_) rfl r1 r2 y5 ⟨Nat.le_of_ble_eq_true r3, Nat.le_of_ble_eq_true r4⟩
    simp only [va_wsS, List.mem_append, List.mem_cons, List.not_mem_nil, or_false] at hw
    rcases hw with (rfl | rfl | rfl) | rfl | hw
    · exact hlk
    · exact y1
    · exact y3
    · exact y4
    · exact hw
  rw [nj_stk]
  refine nj_run (va_runS (As := as.map (nj_pv (fun k => ad (nj_rn is k)))) (rest := st.map (nj_pv ad)) ⟨hx, hb, hml, hown, hts⟩ (hM.2 l D dT sA (fun k => ad (nj_rn is k)) H.size) cw ⟨nj_blind _ _ _ _ _ _ _, hs1⟩ rfl (by simpa using hna) (hL.1.trans hml) rfl (lv_room (by rw [nj_cats]; exact Nat.le_of_ble_eq_true hst)) h ⟨hkc, hks⟩) hP hD hS hemb hn hlen hM.1 hsub (fun H1 locs1 hP1 hD1 hS1 => ?_)
  have := k H1 locs1 lm hsa hP1 hD1 hS1 hL
  rwa [nj_stk2] at this
def nj_Em (hp : List va_E) (is : List Nat) (hpc : List va_E) : Prop := nj_emb hp is hpc ∧ va_nd is = true ∧ Nat.ble is.length 1000 = true
/-- the room of a call -/
def nj_Ro (rmc rm : Room) (nLy : Nat) : Prop := rmc.cells = 0 ∧ rmc.slots = 0 ∧ Nat.ble (rmc.frames + 1) rm.frames = true ∧ Nat.ble (8 + (nLy + 11) + rmc.locals) rm.locals = true
/-- a cell of an object of the class of y -/
def nj_Ob (y : MethodName) (e : Option va_E) : Prop := ∃ (ci : Nat) (fs : List Value) (q : vw_C), e = some (.inr (ci, fs)) ∧ nj_cls[ci]? = some q ∧ q.1 = y.cls
theorem vr_cVip (is : List Nat) (as st : List Value) {st0 : List Value} {v : Int32} (C : nj_C G cc nL own rm) (hd : nj_dc cc pc (.invokevirtual idx) pc') (h1 : pc + 3 = pc') (hlk : .methodLink own idx y ∈ nj_T0) (hy : nj_MV y cy nLy rety n) (hM : nj_Con y cy nLy rety rmc hpc (.ref 0 :: as) (some (.int v)) hpc) (hE : nj_Em hp is hpc) (ho : nj_Ob y (hpc[0]?)) (hna : as.length = n) (hst : Nat.ble ((st.map fun v => v.category).sum) 8 = true) (hrm : nj_Ro rmc rm nLy) (hkc : kc ≤ rm.cells) (hks : ks ≤ rm.slots) (hsk : (as.map (nj_pv (nj_rn is))).reverse ++ .ref (nj_rn is 0) :: st = st0) (k : nj_V G ad kc ks pc' ls (.int v :: st) hp) : nj_V G ad kc ks pc ls st0 hp := by
  subst hsk
  obtain ⟨ci, fs, q, o1, o2, o3⟩ := ho
  have e0 := nj_patch_same hE.1 hE.2.1
  refine vr_callV is C hd h1 hlk hy hM hE.1 hE.2.1 hE.2.2 o1 o2 o3 hna hst hrm hkc hks ?_
  rw [e0]
  exact k
theorem vr_cVi (is : List Nat) (as st : List Value) {st0 : List Value} {v : Int32} (C : nj_C G cc nL own rm) (hd : nj_dc cc pc (.invokevirtual idx) pc') (h1 : pc + 3 = pc') (hlk : .methodLink own idx y ∈ nj_T0) (hy : nj_MV y cy nLy rety n) (hM : nj_Con y cy nLy rety rmc hpc (.ref 0 :: as) (some (.int v)) hpc') (hE : nj_Em hp is hpc) (ho : nj_Ob y (hpc[0]?)) (hna : as.length = n) (hst : Nat.ble ((st.map fun v => v.category).sum) 8 = true) (hrm : nj_Ro rmc rm nLy) (hkc : kc ≤ rm.cells) (hks : ks ≤ rm.slots) (hsk : (as.map (nj_pv (nj_rn is))).reverse ++ .ref (nj_rn is 0) :: st = st0) (hpa : nj_patch hp is (hpc'.map (nj_re is)) = hp') (k : nj_V G ad kc ks pc' ls (.int v :: st) hp') : nj_V G ad kc ks pc ls st0 hp := by
  subst hsk
  obtain ⟨ci, fs, q, o1, o2, o3⟩ := ho
  subst hpa
  exact vr_callV is C hd h1 hlk hy hM hE.1 hE.2.1 hE.2.2 o1 o2 o3 hna hst hrm hkc hks k
theorem vr_cVlp (is : List Nat) (as st : List Value) {st0 : List Value} {v : Int64} (C : nj_C G cc nL own rm) (hd : nj_dc cc pc (.invokevirtual idx) pc') (h1 : pc + 3 = pc') (hlk : .methodLink own idx y ∈ nj_T0) (hy : nj_MV y cy nLy rety n) (hM : nj_Con y cy nLy rety rmc hpc (.ref 0 :: as) (some (.long v)) hpc) (hE : nj_Em hp is hpc) (ho : nj_Ob y (hpc[0]?)) (hna : as.length = n) (hst : Nat.ble ((st.map fun v => v.category).sum) 8 = true) (hrm : nj_Ro rmc rm nLy) (hkc : kc ≤ rm.cells) (hks : ks ≤ rm.slots) (hsk : (as.map (nj_pv (nj_rn is))).reverse ++ .ref (nj_rn is 0) :: st = st0) (k : nj_V G ad kc ks pc' ls (.long v :: st) hp) : nj_V G ad kc ks pc ls st0 hp := by
  subst hsk
  obtain ⟨ci, fs, q, o1, o2, o3⟩ := ho
  have e0 := nj_patch_same hE.1 hE.2.1
  refine vr_callV is C hd h1 hlk hy hM hE.1 hE.2.1 hE.2.2 o1 o2 o3 hna hst hrm hkc hks ?_
  rw [e0]
  exact k
theorem vr_cVl (is : List Nat) (as st : List Value) {st0 : List Value} {v : Int64} (C : nj_C G cc nL own rm) (hd : nj_dc cc pc (.invokevirtual idx) pc') (h1 : pc + 3 = pc') (hlk : .methodLink own idx y ∈ nj_T0) (hy : nj_MV y cy nLy rety n) (hM : nj_Con y cy nLy rety rmc hpc (.ref 0 :: as) (some (.long v)) hpc') (hE : nj_Em hp is hpc) (ho : nj_Ob y (hpc[0]?)) (hna : as.length = n) (hst : Nat.ble ((st.map fun v => v.category).sum) 8 = true) (hrm : nj_Ro rmc rm nLy) (hkc : kc ≤ rm.cells) (hks : ks ≤ rm.slots) (hsk : (as.map (nj_pv (nj_rn is))).reverse ++ .ref (nj_rn is 0) :: st = st0) (hpa : nj_patch hp is (hpc'.map (nj_re is)) = hp') (k : nj_V G ad kc ks pc' ls (.long v :: st) hp') : nj_V G ad kc ks pc ls st0 hp := by
  subst hsk
  obtain ⟨ci, fs, q, o1, o2, o3⟩ := ho
  subst hpa
  exact vr_callV is C hd h1 hlk hy hM hE.1 hE.2.1 hE.2.2 o1 o2 o3 hna hst hrm hkc hks k
theorem vr_cVv (is : List Nat) (as st : List Value) {st0 : List Value} (C : nj_C G cc nL own rm) (hd : nj_dc cc pc (.invokevirtual idx) pc') (h1 : pc + 3 = pc') (hlk : .methodLink own idx y ∈ nj_T0) (hy : nj_MV y cy nLy rety n) (hM : nj_Con y cy nLy rety rmc hpc (.ref 0 :: as) none hpc') (hE : nj_Em hp is hpc) (ho : nj_Ob y (hpc[0]?)) (hna : as.length = n) (hst : Nat.ble ((st.map fun v => v.category).sum) 8 = true) (hrm : nj_Ro rmc rm nLy) (hkc : kc ≤ rm.cells) (hks : ks ≤ rm.slots) (hsk : (as.map (nj_pv (nj_rn is))).reverse ++ .ref (nj_rn is 0) :: st = st0) (hpa : nj_patch hp is (hpc'.map (nj_re is)) = hp') (k : nj_V G ad kc ks pc' ls st hp') : nj_V G ad kc ks pc ls st0 hp := by
  subst hsk
  obtain ⟨ci, fs, q, o1, o2, o3⟩ := ho
  subst hpa
  exact vr_callV is C hd h1 hlk hy hM hE.1 hE.2.1 hE.2.2 o1 o2 o3 hna hst hrm hkc hks k
theorem vr_cSip (is : List Nat) (as st : List Value) {st0 : List Value} {v : Int32} (C : nj_C G cc nL own rm) (hd : nj_dc cc pc (.invokestatic idx) pc') (h1 : pc + 3 = pc') (hlk : .methodLink own idx y ∈ nj_T0) (hy : nj_MS y cy nLy rety n) (hM : nj_Con y cy nLy rety rmc hpc as (some (.int v)) hpc) (hE : nj_Em hp is hpc) (hna : as.length = n) (hst : Nat.ble ((st.map fun v => v.category).sum) 8 = true) (hrm : nj_Ro rmc rm nLy) (hkc : kc ≤ rm.cells) (hks : ks ≤ rm.slots) (hsk : (as.map (nj_pv (nj_rn is))).reverse ++ st = st0) (k : nj_V G ad kc ks pc' ls (.int v :: st) hp) : nj_V G ad kc ks pc ls st0 hp := by
  subst hsk
  have e0 := nj_patch_same hE.1 hE.2.1
  refine vr_callS is C hd h1 hlk hy hM hE.1 hE.2.1 hE.2.2 hna hst hrm hkc hks ?_
  rw [e0]
  exact k
theorem vr_cSi (is : List Nat) (as st : List Value) {st0 : List Value} {v : Int32} (C : nj_C G cc nL own rm) (hd : nj_dc cc pc (.invokestatic idx) pc') (h1 : pc + 3 = pc') (hlk : .methodLink own idx y ∈ nj_T0) (hy : nj_MS y cy nLy rety n) (hM : nj_Con y cy nLy rety rmc hpc as (some (.int v)) hpc') (hE : nj_Em hp is hpc) (hna : as.length = n) (hst : Nat.ble ((st.map fun v => v.category).sum) 8 = true) (hrm : nj_Ro rmc rm nLy) (hkc : kc ≤ rm.cells) (hks : ks ≤ rm.slots) (hsk : (as.map (nj_pv (nj_rn is))).reverse ++ st = st0) (hpa : nj_patch hp is (hpc'.map (nj_re is)) = hp') (k : nj_V G ad kc ks pc' ls (.int v :: st) hp') : nj_V G ad kc ks pc ls st0 hp := by
  subst hsk
  subst hpa
  exact vr_callS is C hd h1 hlk hy hM hE.1 hE.2.1 hE.2.2 hna hst hrm hkc hks k
theorem vr_cSlp (is : List Nat) (as st : List Value) {st0 : List Value} {v : Int64} (C : nj_C G cc nL own rm) (hd : nj_dc cc pc (.invokestatic idx) pc') (h1 : pc + 3 = pc') (hlk : .methodLink own idx y ∈ nj_T0) (hy : nj_MS y cy nLy rety n) (hM : nj_Con y cy nLy rety rmc hpc as (some (.long v)) hpc) (hE : nj_Em hp is hpc) (hna : as.length = n) (hst : Nat.ble ((st.map fun v => v.category).sum) 8 = true) (hrm : nj_Ro rmc rm nLy) (hkc : kc ≤ rm.cells) (hks : ks ≤ rm.slots) (hsk : (as.map (nj_pv (nj_rn is))).reverse ++ st = st0) (k : nj_V G ad kc ks pc' ls (.long v :: st) hp) : nj_V G ad kc ks pc ls st0 hp := by
  subst hsk
  have e0 := nj_patch_same hE.1 hE.2.1
  refine vr_callS is C hd h1 hlk hy hM hE.1 hE.2.1 hE.2.2 hna hst hrm hkc hks ?_
  rw [e0]
  exact k
theorem vr_cSl (is : List Nat) (as st : List Value) {st0 : List Value} {v : Int64} (C : nj_C G cc nL own rm) (hd : nj_dc cc pc (.invokestatic idx) pc') (h1 : pc + 3 = pc') (hlk : .methodLink own idx y ∈ nj_T0) (hy : nj_MS y cy nLy rety n) (hM : nj_Con y cy nLy rety rmc hpc as (some (.long v)) hpc') (hE : nj_Em hp is hpc) (hna : as.length = n) (hst : Nat.ble ((st.map fun v => v.category).sum) 8 = true) (hrm : nj_Ro rmc rm nLy) (hkc : kc ≤ rm.cells) (hks : ks ≤ rm.slots) (hsk : (as.map (nj_pv (nj_rn is))).reverse ++ st = st0) (hpa : nj_patch hp is (hpc'.map (nj_re is)) = hp') (k : nj_V G ad kc ks pc' ls (.long v :: st) hp') : nj_V G ad kc ks pc ls st0 hp := by
  subst hsk
  subst hpa
  exact vr_callS is C hd h1 hlk hy hM hE.1 hE.2.1 hE.2.2 hna hst hrm hkc hks k
theorem vr_cSv (is : List Nat) (as st : List Value) {st0 : List Value} (C : nj_C G cc nL own rm) (hd : nj_dc cc pc (.invokestatic idx) pc') (h1 : pc + 3 = pc') (hlk : .methodLink own idx y ∈ nj_T0) (hy : nj_MS y cy nLy rety n) (hM : nj_Con y cy nLy rety rmc hpc as none hpc') (hE : nj_Em hp is hpc) (hna : as.length = n) (hst : Nat.ble ((st.map fun v => v.category).sum) 8 = true) (hrm : nj_Ro rmc rm nLy) (hkc : kc ≤ rm.cells) (hks : ks ≤ rm.slots) (hsk : (as.map (nj_pv (nj_rn is))).reverse ++ st = st0) (hpa : nj_patch hp is (hpc'.map (nj_re is)) = hp') (k : nj_V G ad kc ks pc' ls st hp') : nj_V G ad kc ks pc ls st0 hp := by
  subst hsk
  subst hpa
  exact vr_callS is C hd h1 hlk hy hM hE.1 hE.2.1 hE.2.2 hna hst hrm hkc hks k
end NjCallRows

section NjMore
variable {G : nj_G} {cc : ByteArray} {nL : Nat} {own : String} {rm : Room} {ad : Nat → Nat} {kc ks pc pc' tgt : Nat} {ls : List (Option Value)} {st : List Value} {hp hp' : List va_E}
theorem vr_tsI (v : Int32) {x : Int32} {dflt lo hi off : Int} {offs : Array Int} {len : Nat} (C : nj_C G cc nL own rm) (hd : decode cc pc = .ok (.tableswitch dflt lo hi offs, len)) (hv : x = v) (h1 : ¬ v.toInt < lo) (h2 : ¬ hi < v.toInt) (ho : offs[(v.toInt - lo).toNat]? = some off) (ht : (pc : Int) + off = (tgt : Int)) (k : nj_V G ad kc ks tgt ls st hp) : nj_V G ad kc ks pc ls (.int x :: st) hp := by
  obtain ⟨⟨p, l, e, R, s, m⟩, ⟨args, below, meth, c, Q⟩, ⟨D, dT, A, sA⟩⟩ := G
  obtain ⟨hx, hb, hml, hown, hts, hR, ⟨hK, hNe, hSt⟩, hlk, hA⟩ := C
  intro H locs lm hsa hP hD hS hL
  subst hv
  exact lv_tableIn hx hb hd h1 h2 ho ht (k H locs lm hsa hP hD hS hL)
theorem vr_tsO {x : Int32} {dflt lo hi : Int} {offs : Array Int} {len : Nat} (C : nj_C G cc nL own rm) (hd : decode cc pc = .ok (.tableswitch dflt lo hi offs, len)) (h1 : x.toInt < lo ∨ hi < x.toInt) (ht : (pc : Int) + dflt = (tgt : Int)) (k : nj_V G ad kc ks tgt ls st hp) : nj_V G ad kc ks pc ls (.int x :: st) hp := by
  obtain ⟨⟨p, l, e, R, s, m⟩, ⟨args, below, meth, c, Q⟩, ⟨D, dT, A, sA⟩⟩ := G
  obtain ⟨hx, hb, hml, hown, hts, hR, ⟨hK, hNe, hSt⟩, hlk, hA⟩ := C
  intro H locs lm hsa hP hD hS hL
  exact lv_tableOut hx hb hd h1 ht (k H locs lm hsa hP hD hS hL)
theorem vr_ls {x : Int32} {dflt off : Int} {ps : Array (Int × Int)} {len : Nat} (C : nj_C G cc nL own rm) (hd : decode cc pc = .ok (.lookupswitch dflt ps, len)) (hp0 : (ps.toList.zip (ps.toList.drop 1)).all (fun (a, next) => a.1 < next.1) = true) (ho : Op.lookupswitch.offset ps.toList dflt x.toInt = off) (ht : (pc : Int) + off = (tgt : Int)) (k : nj_V G ad kc ks tgt ls st hp) : nj_V G ad kc ks pc ls (.int x :: st) hp := by
  obtain ⟨⟨p, l, e, R, s, m⟩, ⟨args, below, meth, c, Q⟩, ⟨D, dT, A, sA⟩⟩ := G
  obtain ⟨hx, hb, hml, hown, hts, hR, ⟨hK, hNe, hSt⟩, hlk, hA⟩ := C
  intro H locs lm hsa hP hD hS hL
  exact lv_lookup hx hb hd hp0 ho ht (k H locs lm hsa hP hD hS hL)
theorem vr_max {idx : Nat} {x y : Int32} (C : nj_C G cc nL own rm) (hd : nj_dc cc pc (.invokestatic idx) pc') (h1 : pc + 3 = pc') (hw : Cond.methodLink own idx Lib.Math.max.name ∈ nj_T0) (hw2 : Cond.static Lib.Math.max.name ∈ nj_T0) (hw3 : Cond.initialized "java/lang/Math" ∈ nj_T0) (hw4 : Cond.code Lib.Math.max.name Lib.Math.max.code 2 (some .int) ∈ nj_T0)
    (hst : Nat.ble ((st.map fun v => v.category).sum) 8 = true) (hf : Nat.ble 1 rm.frames = true) (hlo : Nat.ble 21 rm.locals = true) (hkc : kc ≤ rm.cells) (hks : ks ≤ rm.slots) (k : nj_V G ad kc ks pc' ls (.int (if x < y then y else x) :: st) hp) : nj_V G ad kc ks pc ls (.int y :: .int x :: st) hp := by
  obtain ⟨⟨p, l, e, R, s, m⟩, ⟨args, below, meth, c, Q⟩, ⟨D, dT, A, sA⟩⟩ := G
  obtain ⟨hx, hb, hml, hown, hts, hR, ⟨hK, hNe, hSt⟩, hlk, hA⟩ := C
  intro H locs lm hsa hP hD hS hL
  subst hR
  obtain ⟨n1, h, h2⟩ := hd
  have e1 : n1 = 3 := by omega
  subst e1; subst h1
  have hst := Nat.le_of_ble_eq_true hst
  have hlo := Nat.le_of_ble_eq_true hlo
  exact va_mmax hx hb hL.1.symm hown (hts _ hw) (hts _ hw2) (hts _ hw3) (hts _ hw4) (Nat.le_of_ble_eq_true hf) (by rw [nj_cats]; omega) hkc hks h (k H locs lm hsa hP hD hS hL)
theorem vr_acpy {idx q0 q1 n0 n1 : Nat} {f g : Nat → Int32} {sp dp n : Int32} (C : nj_C G cc nL own rm) (hd : nj_dc cc pc (.invokestatic idx) pc') (h1 : pc + 3 = pc') (hw : Cond.methodLink own idx arraycopyName ∈ nj_T0) (hw2 : Cond.native arraycopyName ∈ nj_T0) (hw3 : Cond.static arraycopyName ∈ nj_T0) (hw4 : Cond.initialized "java/lang/System" ∈ nj_T0)
    (he0 : hp[q0]? = some (.inl (0, n0, .inl f))) (he1 : hp[q1]? = some (.inl (0, n1, .inl g))) (g1 : ¬ sp < 0) (g2 : ¬ dp < 0) (g3 : ¬ n < 0) (g4 : sp.toNatClampNeg + n.toNatClampNeg ≤ n0) (g5 : dp.toNatClampNeg + n.toNatClampNeg ≤ n1)
    (hst : Nat.ble ((st.map fun v => v.category).sum) 8 = true) (hf : Nat.ble 1 rm.frames = true) (hlo : Nat.ble (8 + (nativeFrameWords "java/lang/System" "arraycopy" 5 + 11)) rm.locals = true) (hs : hp.set q1 (.inl (0, n1, .inl (va_cpy f g sp.toNatClampNeg dp.toNatClampNeg n.toNatClampNeg))) = hp')
    (k : nj_V G ad kc ks pc' ls st hp') : nj_V G ad kc ks pc ls (.int n :: .int dp :: .ref q1 :: .int sp :: .ref q0 :: st) hp := by
  obtain ⟨⟨p, l, e, R, s, m⟩, ⟨args, below, meth, c, Q⟩, ⟨D, dT, A, sA⟩⟩ := G
  obtain ⟨hx, hb, hml, hown, hts, hR, ⟨hK, hNe, hSt⟩, hlk, hA⟩ := C
  intro H locs lm hsa hP hD hS hL
  subst hR
  obtain ⟨m1, h, h2⟩ := hd
  have e1 : m1 = 3 := by omega
  subst e1; subst h1
  have hst := Nat.le_of_ble_eq_true hst
  have hlo := Nat.le_of_ble_eq_true hlo
  refine va_copyi (ty := .int) hx hb hL.1.symm hown (hts _ hw) (hts _ hw2) (hts _ hw3) (hts _ hw4) hK hP hD hS q0 q1 0 0 (nj_pw_at he0) (nj_pw_at he1) rfl rfl rfl g1 g2 g3 g4 g5 (fun _ _ => rfl) (Nat.le_of_ble_eq_true hf) (by rw [nj_cats]; omega) h (fun H1 locs1 hP1 hD1 hS1 => ?_)
  have e9 : (nj_pw ad dT hp).set q1 (ad q1, .inl (dT 0, n1, .inl (va_cpy f g sp.toNatClampNeg dp.toNatClampNeg n.toNatClampNeg))) = nj_pw ad dT hp' := by
    rw [← hs, ← nj_pw_set]
    rfl
  exact k H1 locs1 lm hsa (e9 ▸ hP1) (e9 ▸ hD1) hS1 hL
end NjMore
-- a model's steps
theorem no_if {α : Type} {c : Prop} [Decidable c] {A : Option α} {r : α} (h : (if c then A else none) = some r) : c ∧ A = some r := by
  by_cases hc : c
  · rw [if_pos hc] at h; exact ⟨hc, h⟩
  · rw [if_neg hc] at h; cases h
theorem no_t {α : Type} {c : Prop} [Decidable c] {A B : α} {r : α} (hc : c) (h : (if c then A else B) = r) : A = r := by rwa [if_pos hc] at h
theorem no_f {α : Type} {c : Prop} [Decidable c] {A B : α} {r : α} (hc : ¬ c) (h : (if c then A else B) = r) : B = r := by rwa [if_neg hc] at h
theorem no_bt {α : Type} {b : Bool} {A B : α} {r : α} (hc : b = true) (h : (bif b then A else B) = r) : A = r := by rw [hc] at h; exact h
theorem no_bf {α : Type} {b : Bool} {A B : α} {r : α} (hc : b = false) (h : (bif b then A else B) = r) : B = r := by rw [hc] at h; exact h
theorem no_b {α β : Type} {x : Option α} {f : α → Option β} {r : β} (h : x.bind f = some r) : ∃ a, x = some a ∧ f a = some r := Option.bind_eq_some_iff.mp h
theorem no_s {α : Type} {a r : α} (h : some a = some r) : r = a := (Option.some.inj h).symm
def nj_in (i : Int32) (n : Nat) : Bool := !(decide (i < 0) || decide (n ≤ i.toNatClampNeg))
theorem no_i {α : Type} {i : Int32} {n : Nat} {A : Option α} {r : α} (h : (bif nj_in i n then A else none) = some r) : vp_in i n ∧ A = some r := by
  cases hb : nj_in i n with
  | false => rw [hb] at h; cases h
  | true =>
    rw [hb] at h
    refine ⟨?_, h⟩
    simp only [nj_in, Bool.not_eq_true', Bool.or_eq_false_iff, decide_eq_false_iff_not] at hb
    exact fun q => q.elim hb.1 hb.2
end
section
/-! the worlds: what the cells hold, as tuples -/
abbrev RowS : Type := Int32 × (Nat → Int32)
abbrev ro_size (x : RowS) : Int32 := x.1
abbrev ro_places (x : RowS) : (Nat → Int32) := x.2
abbrev rs_size (x : RowS) (v : Int32) : RowS := (v, x.2)
abbrev rs_places (x : RowS) (v : (Nat → Int32)) : RowS := (x.1, v)
abbrev TexS : Type := Int32 × (Nat → Int32)
abbrev te_size (x : TexS) : Int32 := x.1
abbrev te_bytes (x : TexS) : (Nat → Int32) := x.2
abbrev ts_size (x : TexS) (v : Int32) : TexS := (v, x.2)
abbrev ts_bytes (x : TexS) (v : (Nat → Int32)) : TexS := (x.1, v)
abbrev CluS : Type := (Nat → Int32) × (Nat → Int32) × (Nat → Int32) × (Nat → Int32) × Int32 × Int32 × Int32 × Int32 × Int32
abbrev cl_kinds (x : CluS) : (Nat → Int32) := x.1
abbrev cl_pence (x : CluS) : (Nat → Int32) := x.2.1
abbrev cl_liked (x : CluS) : (Nat → Int32) := x.2.2.1
abbrev cl_deeds (x : CluS) : (Nat → Int32) := x.2.2.2.1
abbrev cl_children (x : CluS) : Int32 := x.2.2.2.2.1
abbrev cl_rule (x : CluS) : Int32 := x.2.2.2.2.2.1
abbrev cl_inn (x : CluS) : Int32 := x.2.2.2.2.2.2.1
abbrev cl_tin (x : CluS) : Int32 := x.2.2.2.2.2.2.2.1
abbrev cl_dc (x : CluS) : Int32 := x.2.2.2.2.2.2.2.2
abbrev cs_kinds (x : CluS) (v : (Nat → Int32)) : CluS := (v, x.2.1, x.2.2.1, x.2.2.2.1, x.2.2.2.2.1, x.2.2.2.2.2.1, x.2.2.2.2.2.2.1, x.2.2.2.2.2.2.2.1, x.2.2.2.2.2.2.2.2)
abbrev cs_pence (x : CluS) (v : (Nat → Int32)) : CluS := (x.1, v, x.2.2.1, x.2.2.2.1, x.2.2.2.2.1, x.2.2.2.2.2.1, x.2.2.2.2.2.2.1, x.2.2.2.2.2.2.2.1, x.2.2.2.2.2.2.2.2)
abbrev cs_liked (x : CluS) (v : (Nat → Int32)) : CluS := (x.1, x.2.1, v, x.2.2.2.1, x.2.2.2.2.1, x.2.2.2.2.2.1, x.2.2.2.2.2.2.1, x.2.2.2.2.2.2.2.1, x.2.2.2.2.2.2.2.2)
abbrev cs_deeds (x : CluS) (v : (Nat → Int32)) : CluS := (x.1, x.2.1, x.2.2.1, v, x.2.2.2.2.1, x.2.2.2.2.2.1, x.2.2.2.2.2.2.1, x.2.2.2.2.2.2.2.1, x.2.2.2.2.2.2.2.2)
abbrev cs_children (x : CluS) (v : Int32) : CluS := (x.1, x.2.1, x.2.2.1, x.2.2.2.1, v, x.2.2.2.2.2.1, x.2.2.2.2.2.2.1, x.2.2.2.2.2.2.2.1, x.2.2.2.2.2.2.2.2)
abbrev cs_rule (x : CluS) (v : Int32) : CluS := (x.1, x.2.1, x.2.2.1, x.2.2.2.1, x.2.2.2.2.1, v, x.2.2.2.2.2.2.1, x.2.2.2.2.2.2.2.1, x.2.2.2.2.2.2.2.2)
abbrev cs_inn (x : CluS) (v : Int32) : CluS := (x.1, x.2.1, x.2.2.1, x.2.2.2.1, x.2.2.2.2.1, x.2.2.2.2.2.1, v, x.2.2.2.2.2.2.2.1, x.2.2.2.2.2.2.2.2)
abbrev cs_tin (x : CluS) (v : Int32) : CluS := (x.1, x.2.1, x.2.2.1, x.2.2.2.1, x.2.2.2.2.1, x.2.2.2.2.2.1, x.2.2.2.2.2.2.1, v, x.2.2.2.2.2.2.2.2)
abbrev cs_dc (x : CluS) (v : Int32) : CluS := (x.1, x.2.1, x.2.2.1, x.2.2.2.1, x.2.2.2.2.1, x.2.2.2.2.2.1, x.2.2.2.2.2.2.1, x.2.2.2.2.2.2.2.1, v)
abbrev RdS : Type := Int32 × Int32
abbrev rd_place (x : RdS) : Int32 := x.1
abbrev rd_pairs (x : RdS) : Int32 := x.2
abbrev ds_place (x : RdS) (v : Int32) : RdS := (v, x.2)
abbrev ds_pairs (x : RdS) (v : Int32) : RdS := (x.1, v)
abbrev NjS : Type := (Nat → RowS) × (Nat → TexS) × CluS × CluS × (Nat → CluS) × RdS × (Nat → Int32) × (Nat → Int32) × Int32 × Int32 × Int64 × Int64
abbrev nj_rows (x : NjS) : (Nat → RowS) := x.1
abbrev nj_texts (x : NjS) : (Nat → TexS) := x.2.1
abbrev nj_club (x : NjS) : CluS := x.2.2.1
abbrev nj_draft (x : NjS) : CluS := x.2.2.2.1
abbrev nj_kept (x : NjS) : (Nat → CluS) := x.2.2.2.2.1
abbrev nj_rd (x : NjS) : RdS := x.2.2.2.2.2.1
abbrev nj_os (x : NjS) : (Nat → Int32) := x.2.2.2.2.2.2.1
abbrev nj_fc (x : NjS) : (Nat → Int32) := x.2.2.2.2.2.2.2.1
abbrev nj_lf (x : NjS) : Int32 := x.2.2.2.2.2.2.2.2.1
abbrev nj_an (x : NjS) : Int32 := x.2.2.2.2.2.2.2.2.2.1
abbrev nj_up (x : NjS) : Int64 := x.2.2.2.2.2.2.2.2.2.2.1
abbrev nj_lo (x : NjS) : Int64 := x.2.2.2.2.2.2.2.2.2.2.2
abbrev ns_rows (x : NjS) (v : (Nat → RowS)) : NjS := (v, x.2.1, x.2.2.1, x.2.2.2.1, x.2.2.2.2.1, x.2.2.2.2.2.1, x.2.2.2.2.2.2.1, x.2.2.2.2.2.2.2.1, x.2.2.2.2.2.2.2.2.1, x.2.2.2.2.2.2.2.2.2.1, x.2.2.2.2.2.2.2.2.2.2.1, x.2.2.2.2.2.2.2.2.2.2.2)
abbrev ns_texts (x : NjS) (v : (Nat → TexS)) : NjS := (x.1, v, x.2.2.1, x.2.2.2.1, x.2.2.2.2.1, x.2.2.2.2.2.1, x.2.2.2.2.2.2.1, x.2.2.2.2.2.2.2.1, x.2.2.2.2.2.2.2.2.1, x.2.2.2.2.2.2.2.2.2.1, x.2.2.2.2.2.2.2.2.2.2.1, x.2.2.2.2.2.2.2.2.2.2.2)
abbrev ns_club (x : NjS) (v : CluS) : NjS := (x.1, x.2.1, v, x.2.2.2.1, x.2.2.2.2.1, x.2.2.2.2.2.1, x.2.2.2.2.2.2.1, x.2.2.2.2.2.2.2.1, x.2.2.2.2.2.2.2.2.1, x.2.2.2.2.2.2.2.2.2.1, x.2.2.2.2.2.2.2.2.2.2.1, x.2.2.2.2.2.2.2.2.2.2.2)
abbrev ns_draft (x : NjS) (v : CluS) : NjS := (x.1, x.2.1, x.2.2.1, v, x.2.2.2.2.1, x.2.2.2.2.2.1, x.2.2.2.2.2.2.1, x.2.2.2.2.2.2.2.1, x.2.2.2.2.2.2.2.2.1, x.2.2.2.2.2.2.2.2.2.1, x.2.2.2.2.2.2.2.2.2.2.1, x.2.2.2.2.2.2.2.2.2.2.2)
abbrev ns_kept (x : NjS) (v : (Nat → CluS)) : NjS := (x.1, x.2.1, x.2.2.1, x.2.2.2.1, v, x.2.2.2.2.2.1, x.2.2.2.2.2.2.1, x.2.2.2.2.2.2.2.1, x.2.2.2.2.2.2.2.2.1, x.2.2.2.2.2.2.2.2.2.1, x.2.2.2.2.2.2.2.2.2.2.1, x.2.2.2.2.2.2.2.2.2.2.2)
abbrev ns_rd (x : NjS) (v : RdS) : NjS := (x.1, x.2.1, x.2.2.1, x.2.2.2.1, x.2.2.2.2.1, v, x.2.2.2.2.2.2.1, x.2.2.2.2.2.2.2.1, x.2.2.2.2.2.2.2.2.1, x.2.2.2.2.2.2.2.2.2.1, x.2.2.2.2.2.2.2.2.2.2.1, x.2.2.2.2.2.2.2.2.2.2.2)
abbrev ns_os (x : NjS) (v : (Nat → Int32)) : NjS := (x.1, x.2.1, x.2.2.1, x.2.2.2.1, x.2.2.2.2.1, x.2.2.2.2.2.1, v, x.2.2.2.2.2.2.2.1, x.2.2.2.2.2.2.2.2.1, x.2.2.2.2.2.2.2.2.2.1, x.2.2.2.2.2.2.2.2.2.2.1, x.2.2.2.2.2.2.2.2.2.2.2)
abbrev ns_fc (x : NjS) (v : (Nat → Int32)) : NjS := (x.1, x.2.1, x.2.2.1, x.2.2.2.1, x.2.2.2.2.1, x.2.2.2.2.2.1, x.2.2.2.2.2.2.1, v, x.2.2.2.2.2.2.2.2.1, x.2.2.2.2.2.2.2.2.2.1, x.2.2.2.2.2.2.2.2.2.2.1, x.2.2.2.2.2.2.2.2.2.2.2)
abbrev ns_lf (x : NjS) (v : Int32) : NjS := (x.1, x.2.1, x.2.2.1, x.2.2.2.1, x.2.2.2.2.1, x.2.2.2.2.2.1, x.2.2.2.2.2.2.1, x.2.2.2.2.2.2.2.1, v, x.2.2.2.2.2.2.2.2.2.1, x.2.2.2.2.2.2.2.2.2.2.1, x.2.2.2.2.2.2.2.2.2.2.2)
abbrev ns_an (x : NjS) (v : Int32) : NjS := (x.1, x.2.1, x.2.2.1, x.2.2.2.1, x.2.2.2.2.1, x.2.2.2.2.2.1, x.2.2.2.2.2.2.1, x.2.2.2.2.2.2.2.1, x.2.2.2.2.2.2.2.2.1, v, x.2.2.2.2.2.2.2.2.2.2.1, x.2.2.2.2.2.2.2.2.2.2.2)
abbrev ns_up (x : NjS) (v : Int64) : NjS := (x.1, x.2.1, x.2.2.1, x.2.2.2.1, x.2.2.2.2.1, x.2.2.2.2.2.1, x.2.2.2.2.2.2.1, x.2.2.2.2.2.2.2.1, x.2.2.2.2.2.2.2.2.1, x.2.2.2.2.2.2.2.2.2.1, v, x.2.2.2.2.2.2.2.2.2.2.2)
abbrev ns_lo (x : NjS) (v : Int64) : NjS := (x.1, x.2.1, x.2.2.1, x.2.2.2.1, x.2.2.2.2.1, x.2.2.2.2.2.1, x.2.2.2.2.2.2.1, x.2.2.2.2.2.2.2.1, x.2.2.2.2.2.2.2.2.1, x.2.2.2.2.2.2.2.2.2.1, x.2.2.2.2.2.2.2.2.2.2.1, v)
abbrev MdS : Type := (Nat → Int32) × Int32 × (Nat → Int32) × (Nat → Int32) × (Nat → Int32) × (Nat → Int32) × (Nat → Int32) × Int32 × Int64 × Int64 × Int32 × (Nat → Int32) × Int32 × Int32 × Int32 × Int32 × (Nat → Int32) × Int32 × (Nat → Int32) × Int32 × (Nat → Int32) × (Nat → Int32) × (Nat → Int64)
abbrev md_row (x : MdS) : (Nat → Int32) := x.1
abbrev md_children (x : MdS) : Int32 := x.2.1
abbrev md_kinds (x : MdS) : (Nat → Int32) := x.2.2.1
abbrev md_sizes (x : MdS) : (Nat → Int32) := x.2.2.2.1
abbrev md_items (x : MdS) : (Nat → Int32) := x.2.2.2.2.1
abbrev md_lengths (x : MdS) : (Nat → Int32) := x.2.2.2.2.2.1
abbrev md_bytes (x : MdS) : (Nat → Int32) := x.2.2.2.2.2.2.1
abbrev md_asked (x : MdS) : Int32 := x.2.2.2.2.2.2.2.1
abbrev md_upper (x : MdS) : Int64 := x.2.2.2.2.2.2.2.2.1
abbrev md_lower (x : MdS) : Int64 := x.2.2.2.2.2.2.2.2.2.1
abbrev md_finding (x : MdS) : Int32 := x.2.2.2.2.2.2.2.2.2.2.1
abbrev md_findings (x : MdS) : (Nat → Int32) := x.2.2.2.2.2.2.2.2.2.2.2.1
abbrev md_from (x : MdS) : Int32 := x.2.2.2.2.2.2.2.2.2.2.2.2.1
abbrev md_place (x : MdS) : Int32 := x.2.2.2.2.2.2.2.2.2.2.2.2.2.1
abbrev md_stop (x : MdS) : Int32 := x.2.2.2.2.2.2.2.2.2.2.2.2.2.2.1
abbrev md_readRule (x : MdS) : Int32 := x.2.2.2.2.2.2.2.2.2.2.2.2.2.2.2.1
abbrev md_readChildren (x : MdS) : (Nat → Int32) := x.2.2.2.2.2.2.2.2.2.2.2.2.2.2.2.2.1
abbrev md_readMany (x : MdS) : Int32 := x.2.2.2.2.2.2.2.2.2.2.2.2.2.2.2.2.2.1
abbrev md_readLikes (x : MdS) : (Nat → Int32) := x.2.2.2.2.2.2.2.2.2.2.2.2.2.2.2.2.2.2.1
abbrev md_readPairs (x : MdS) : Int32 := x.2.2.2.2.2.2.2.2.2.2.2.2.2.2.2.2.2.2.2.1
abbrev md_outOf (x : MdS) : (Nat → Int32) := x.2.2.2.2.2.2.2.2.2.2.2.2.2.2.2.2.2.2.2.2.1
abbrev md_longer (x : MdS) : (Nat → Int32) := x.2.2.2.2.2.2.2.2.2.2.2.2.2.2.2.2.2.2.2.2.2.1
abbrev md_ways (x : MdS) : (Nat → Int64) := x.2.2.2.2.2.2.2.2.2.2.2.2.2.2.2.2.2.2.2.2.2.2
abbrev ms_row (x : MdS) (v : (Nat → Int32)) : MdS := (v, x.2.1, x.2.2.1, x.2.2.2.1, x.2.2.2.2.1, x.2.2.2.2.2.1, x.2.2.2.2.2.2.1, x.2.2.2.2.2.2.2.1, x.2.2.2.2.2.2.2.2.1, x.2.2.2.2.2.2.2.2.2.1, x.2.2.2.2.2.2.2.2.2.2.1, x.2.2.2.2.2.2.2.2.2.2.2.1, x.2.2.2.2.2.2.2.2.2.2.2.2.1, x.2.2.2.2.2.2.2.2.2.2.2.2.2.1, x.2.2.2.2.2.2.2.2.2.2.2.2.2.2.1, x.2.2.2.2.2.2.2.2.2.2.2.2.2.2.2.1, x.2.2.2.2.2.2.2.2.2.2.2.2.2.2.2.2.1, x.2.2.2.2.2.2.2.2.2.2.2.2.2.2.2.2.2.1, x.2.2.2.2.2.2.2.2.2.2.2.2.2.2.2.2.2.2.1, x.2.2.2.2.2.2.2.2.2.2.2.2.2.2.2.2.2.2.2.1, x.2.2.2.2.2.2.2.2.2.2.2.2.2.2.2.2.2.2.2.2.1, x.2.2.2.2.2.2.2.2.2.2.2.2.2.2.2.2.2.2.2.2.2.1, x.2.2.2.2.2.2.2.2.2.2.2.2.2.2.2.2.2.2.2.2.2.2)
abbrev ms_children (x : MdS) (v : Int32) : MdS := (x.1, v, x.2.2.1, x.2.2.2.1, x.2.2.2.2.1, x.2.2.2.2.2.1, x.2.2.2.2.2.2.1, x.2.2.2.2.2.2.2.1, x.2.2.2.2.2.2.2.2.1, x.2.2.2.2.2.2.2.2.2.1, x.2.2.2.2.2.2.2.2.2.2.1, x.2.2.2.2.2.2.2.2.2.2.2.1, x.2.2.2.2.2.2.2.2.2.2.2.2.1, x.2.2.2.2.2.2.2.2.2.2.2.2.2.1, x.2.2.2.2.2.2.2.2.2.2.2.2.2.2.1, x.2.2.2.2.2.2.2.2.2.2.2.2.2.2.2.1, x.2.2.2.2.2.2.2.2.2.2.2.2.2.2.2.2.1, x.2.2.2.2.2.2.2.2.2.2.2.2.2.2.2.2.2.1, x.2.2.2.2.2.2.2.2.2.2.2.2.2.2.2.2.2.2.1, x.2.2.2.2.2.2.2.2.2.2.2.2.2.2.2.2.2.2.2.1, x.2.2.2.2.2.2.2.2.2.2.2.2.2.2.2.2.2.2.2.2.1, x.2.2.2.2.2.2.2.2.2.2.2.2.2.2.2.2.2.2.2.2.2.1, x.2.2.2.2.2.2.2.2.2.2.2.2.2.2.2.2.2.2.2.2.2.2)
abbrev ms_kinds (x : MdS) (v : (Nat → Int32)) : MdS := (x.1, x.2.1, v, x.2.2.2.1, x.2.2.2.2.1, x.2.2.2.2.2.1, x.2.2.2.2.2.2.1, x.2.2.2.2.2.2.2.1, x.2.2.2.2.2.2.2.2.1, x.2.2.2.2.2.2.2.2.2.1, x.2.2.2.2.2.2.2.2.2.2.1, x.2.2.2.2.2.2.2.2.2.2.2.1, x.2.2.2.2.2.2.2.2.2.2.2.2.1, x.2.2.2.2.2.2.2.2.2.2.2.2.2.1, x.2.2.2.2.2.2.2.2.2.2.2.2.2.2.1, x.2.2.2.2.2.2.2.2.2.2.2.2.2.2.2.1, x.2.2.2.2.2.2.2.2.2.2.2.2.2.2.2.2.1, x.2.2.2.2.2.2.2.2.2.2.2.2.2.2.2.2.2.1, x.2.2.2.2.2.2.2.2.2.2.2.2.2.2.2.2.2.2.1, x.2.2.2.2.2.2.2.2.2.2.2.2.2.2.2.2.2.2.2.1, x.2.2.2.2.2.2.2.2.2.2.2.2.2.2.2.2.2.2.2.2.1, x.2.2.2.2.2.2.2.2.2.2.2.2.2.2.2.2.2.2.2.2.2.1, x.2.2.2.2.2.2.2.2.2.2.2.2.2.2.2.2.2.2.2.2.2.2)
abbrev ms_sizes (x : MdS) (v : (Nat → Int32)) : MdS := (x.1, x.2.1, x.2.2.1, v, x.2.2.2.2.1, x.2.2.2.2.2.1, x.2.2.2.2.2.2.1, x.2.2.2.2.2.2.2.1, x.2.2.2.2.2.2.2.2.1, x.2.2.2.2.2.2.2.2.2.1, x.2.2.2.2.2.2.2.2.2.2.1, x.2.2.2.2.2.2.2.2.2.2.2.1, x.2.2.2.2.2.2.2.2.2.2.2.2.1, x.2.2.2.2.2.2.2.2.2.2.2.2.2.1, x.2.2.2.2.2.2.2.2.2.2.2.2.2.2.1, x.2.2.2.2.2.2.2.2.2.2.2.2.2.2.2.1, x.2.2.2.2.2.2.2.2.2.2.2.2.2.2.2.2.1, x.2.2.2.2.2.2.2.2.2.2.2.2.2.2.2.2.2.1, x.2.2.2.2.2.2.2.2.2.2.2.2.2.2.2.2.2.2.1, x.2.2.2.2.2.2.2.2.2.2.2.2.2.2.2.2.2.2.2.1, x.2.2.2.2.2.2.2.2.2.2.2.2.2.2.2.2.2.2.2.2.1, x.2.2.2.2.2.2.2.2.2.2.2.2.2.2.2.2.2.2.2.2.2.1, x.2.2.2.2.2.2.2.2.2.2.2.2.2.2.2.2.2.2.2.2.2.2)
abbrev ms_items (x : MdS) (v : (Nat → Int32)) : MdS := (x.1, x.2.1, x.2.2.1, x.2.2.2.1, v, x.2.2.2.2.2.1, x.2.2.2.2.2.2.1, x.2.2.2.2.2.2.2.1, x.2.2.2.2.2.2.2.2.1, x.2.2.2.2.2.2.2.2.2.1, x.2.2.2.2.2.2.2.2.2.2.1, x.2.2.2.2.2.2.2.2.2.2.2.1, x.2.2.2.2.2.2.2.2.2.2.2.2.1, x.2.2.2.2.2.2.2.2.2.2.2.2.2.1, x.2.2.2.2.2.2.2.2.2.2.2.2.2.2.1, x.2.2.2.2.2.2.2.2.2.2.2.2.2.2.2.1, x.2.2.2.2.2.2.2.2.2.2.2.2.2.2.2.2.1, x.2.2.2.2.2.2.2.2.2.2.2.2.2.2.2.2.2.1, x.2.2.2.2.2.2.2.2.2.2.2.2.2.2.2.2.2.2.1, x.2.2.2.2.2.2.2.2.2.2.2.2.2.2.2.2.2.2.2.1, x.2.2.2.2.2.2.2.2.2.2.2.2.2.2.2.2.2.2.2.2.1, x.2.2.2.2.2.2.2.2.2.2.2.2.2.2.2.2.2.2.2.2.2.1, x.2.2.2.2.2.2.2.2.2.2.2.2.2.2.2.2.2.2.2.2.2.2)
abbrev ms_lengths (x : MdS) (v : (Nat → Int32)) : MdS := (x.1, x.2.1, x.2.2.1, x.2.2.2.1, x.2.2.2.2.1, v, x.2.2.2.2.2.2.1, x.2.2.2.2.2.2.2.1, x.2.2.2.2.2.2.2.2.1, x.2.2.2.2.2.2.2.2.2.1, x.2.2.2.2.2.2.2.2.2.2.1, x.2.2.2.2.2.2.2.2.2.2.2.1, x.2.2.2.2.2.2.2.2.2.2.2.2.1, x.2.2.2.2.2.2.2.2.2.2.2.2.2.1, x.2.2.2.2.2.2.2.2.2.2.2.2.2.2.1, x.2.2.2.2.2.2.2.2.2.2.2.2.2.2.2.1, x.2.2.2.2.2.2.2.2.2.2.2.2.2.2.2.2.1, x.2.2.2.2.2.2.2.2.2.2.2.2.2.2.2.2.2.1, x.2.2.2.2.2.2.2.2.2.2.2.2.2.2.2.2.2.2.1, x.2.2.2.2.2.2.2.2.2.2.2.2.2.2.2.2.2.2.2.1, x.2.2.2.2.2.2.2.2.2.2.2.2.2.2.2.2.2.2.2.2.1, x.2.2.2.2.2.2.2.2.2.2.2.2.2.2.2.2.2.2.2.2.2.1, x.2.2.2.2.2.2.2.2.2.2.2.2.2.2.2.2.2.2.2.2.2.2)
abbrev ms_bytes (x : MdS) (v : (Nat → Int32)) : MdS := (x.1, x.2.1, x.2.2.1, x.2.2.2.1, x.2.2.2.2.1, x.2.2.2.2.2.1, v, x.2.2.2.2.2.2.2.1, x.2.2.2.2.2.2.2.2.1, x.2.2.2.2.2.2.2.2.2.1, x.2.2.2.2.2.2.2.2.2.2.1, x.2.2.2.2.2.2.2.2.2.2.2.1, x.2.2.2.2.2.2.2.2.2.2.2.2.1, x.2.2.2.2.2.2.2.2.2.2.2.2.2.1, x.2.2.2.2.2.2.2.2.2.2.2.2.2.2.1, x.2.2.2.2.2.2.2.2.2.2.2.2.2.2.2.1, x.2.2.2.2.2.2.2.2.2.2.2.2.2.2.2.2.1, x.2.2.2.2.2.2.2.2.2.2.2.2.2.2.2.2.2.1, x.2.2.2.2.2.2.2.2.2.2.2.2.2.2.2.2.2.2.1, x.2.2.2.2.2.2.2.2.2.2.2.2.2.2.2.2.2.2.2.1, x.2.2.2.2.2.2.2.2.2.2.2.2.2.2.2.2.2.2.2.2.1, x.2.2.2.2.2.2.2.2.2.2.2.2.2.2.2.2.2.2.2.2.2.1, x.2.2.2.2.2.2.2.2.2.2.2.2.2.2.2.2.2.2.2.2.2.2)
abbrev ms_asked (x : MdS) (v : Int32) : MdS := (x.1, x.2.1, x.2.2.1, x.2.2.2.1, x.2.2.2.2.1, x.2.2.2.2.2.1, x.2.2.2.2.2.2.1, v, x.2.2.2.2.2.2.2.2.1, x.2.2.2.2.2.2.2.2.2.1, x.2.2.2.2.2.2.2.2.2.2.1, x.2.2.2.2.2.2.2.2.2.2.2.1, x.2.2.2.2.2.2.2.2.2.2.2.2.1, x.2.2.2.2.2.2.2.2.2.2.2.2.2.1, x.2.2.2.2.2.2.2.2.2.2.2.2.2.2.1, x.2.2.2.2.2.2.2.2.2.2.2.2.2.2.2.1, x.2.2.2.2.2.2.2.2.2.2.2.2.2.2.2.2.1, x.2.2.2.2.2.2.2.2.2.2.2.2.2.2.2.2.2.1, x.2.2.2.2.2.2.2.2.2.2.2.2.2.2.2.2.2.2.1, x.2.2.2.2.2.2.2.2.2.2.2.2.2.2.2.2.2.2.2.1, x.2.2.2.2.2.2.2.2.2.2.2.2.2.2.2.2.2.2.2.2.1, x.2.2.2.2.2.2.2.2.2.2.2.2.2.2.2.2.2.2.2.2.2.1, x.2.2.2.2.2.2.2.2.2.2.2.2.2.2.2.2.2.2.2.2.2.2)
abbrev ms_upper (x : MdS) (v : Int64) : MdS := (x.1, x.2.1, x.2.2.1, x.2.2.2.1, x.2.2.2.2.1, x.2.2.2.2.2.1, x.2.2.2.2.2.2.1, x.2.2.2.2.2.2.2.1, v, x.2.2.2.2.2.2.2.2.2.1, x.2.2.2.2.2.2.2.2.2.2.1, x.2.2.2.2.2.2.2.2.2.2.2.1, x.2.2.2.2.2.2.2.2.2.2.2.2.1, x.2.2.2.2.2.2.2.2.2.2.2.2.2.1, x.2.2.2.2.2.2.2.2.2.2.2.2.2.2.1, x.2.2.2.2.2.2.2.2.2.2.2.2.2.2.2.1, x.2.2.2.2.2.2.2.2.2.2.2.2.2.2.2.2.1, x.2.2.2.2.2.2.2.2.2.2.2.2.2.2.2.2.2.1, x.2.2.2.2.2.2.2.2.2.2.2.2.2.2.2.2.2.2.1, x.2.2.2.2.2.2.2.2.2.2.2.2.2.2.2.2.2.2.2.1, x.2.2.2.2.2.2.2.2.2.2.2.2.2.2.2.2.2.2.2.2.1, x.2.2.2.2.2.2.2.2.2.2.2.2.2.2.2.2.2.2.2.2.2.1, x.2.2.2.2.2.2.2.2.2.2.2.2.2.2.2.2.2.2.2.2.2.2)
abbrev ms_lower (x : MdS) (v : Int64) : MdS := (x.1, x.2.1, x.2.2.1, x.2.2.2.1, x.2.2.2.2.1, x.2.2.2.2.2.1, x.2.2.2.2.2.2.1, x.2.2.2.2.2.2.2.1, x.2.2.2.2.2.2.2.2.1, v, x.2.2.2.2.2.2.2.2.2.2.1, x.2.2.2.2.2.2.2.2.2.2.2.1, x.2.2.2.2.2.2.2.2.2.2.2.2.1, x.2.2.2.2.2.2.2.2.2.2.2.2.2.1, x.2.2.2.2.2.2.2.2.2.2.2.2.2.2.1, x.2.2.2.2.2.2.2.2.2.2.2.2.2.2.2.1, x.2.2.2.2.2.2.2.2.2.2.2.2.2.2.2.2.1, x.2.2.2.2.2.2.2.2.2.2.2.2.2.2.2.2.2.1, x.2.2.2.2.2.2.2.2.2.2.2.2.2.2.2.2.2.2.1, x.2.2.2.2.2.2.2.2.2.2.2.2.2.2.2.2.2.2.2.1, x.2.2.2.2.2.2.2.2.2.2.2.2.2.2.2.2.2.2.2.2.1, x.2.2.2.2.2.2.2.2.2.2.2.2.2.2.2.2.2.2.2.2.2.1, x.2.2.2.2.2.2.2.2.2.2.2.2.2.2.2.2.2.2.2.2.2.2)
abbrev ms_finding (x : MdS) (v : Int32) : MdS := (x.1, x.2.1, x.2.2.1, x.2.2.2.1, x.2.2.2.2.1, x.2.2.2.2.2.1, x.2.2.2.2.2.2.1, x.2.2.2.2.2.2.2.1, x.2.2.2.2.2.2.2.2.1, x.2.2.2.2.2.2.2.2.2.1, v, x.2.2.2.2.2.2.2.2.2.2.2.1, x.2.2.2.2.2.2.2.2.2.2.2.2.1, x.2.2.2.2.2.2.2.2.2.2.2.2.2.1, x.2.2.2.2.2.2.2.2.2.2.2.2.2.2.1, x.2.2.2.2.2.2.2.2.2.2.2.2.2.2.2.1, x.2.2.2.2.2.2.2.2.2.2.2.2.2.2.2.2.1, x.2.2.2.2.2.2.2.2.2.2.2.2.2.2.2.2.2.1, x.2.2.2.2.2.2.2.2.2.2.2.2.2.2.2.2.2.2.1, x.2.2.2.2.2.2.2.2.2.2.2.2.2.2.2.2.2.2.2.1, x.2.2.2.2.2.2.2.2.2.2.2.2.2.2.2.2.2.2.2.2.1, x.2.2.2.2.2.2.2.2.2.2.2.2.2.2.2.2.2.2.2.2.2.1, x.2.2.2.2.2.2.2.2.2.2.2.2.2.2.2.2.2.2.2.2.2.2)
abbrev ms_findings (x : MdS) (v : (Nat → Int32)) : MdS := (x.1, x.2.1, x.2.2.1, x.2.2.2.1, x.2.2.2.2.1, x.2.2.2.2.2.1, x.2.2.2.2.2.2.1, x.2.2.2.2.2.2.2.1, x.2.2.2.2.2.2.2.2.1, x.2.2.2.2.2.2.2.2.2.1, x.2.2.2.2.2.2.2.2.2.2.1, v, x.2.2.2.2.2.2.2.2.2.2.2.2.1, x.2.2.2.2.2.2.2.2.2.2.2.2.2.1, x.2.2.2.2.2.2.2.2.2.2.2.2.2.2.1, x.2.2.2.2.2.2.2.2.2.2.2.2.2.2.2.1, x.2.2.2.2.2.2.2.2.2.2.2.2.2.2.2.2.1, x.2.2.2.2.2.2.2.2.2.2.2.2.2.2.2.2.2.1, x.2.2.2.2.2.2.2.2.2.2.2.2.2.2.2.2.2.2.1, x.2.2.2.2.2.2.2.2.2.2.2.2.2.2.2.2.2.2.2.1, x.2.2.2.2.2.2.2.2.2.2.2.2.2.2.2.2.2.2.2.2.1, x.2.2.2.2.2.2.2.2.2.2.2.2.2.2.2.2.2.2.2.2.2.1, x.2.2.2.2.2.2.2.2.2.2.2.2.2.2.2.2.2.2.2.2.2.2)
abbrev ms_from (x : MdS) (v : Int32) : MdS := (x.1, x.2.1, x.2.2.1, x.2.2.2.1, x.2.2.2.2.1, x.2.2.2.2.2.1, x.2.2.2.2.2.2.1, x.2.2.2.2.2.2.2.1, x.2.2.2.2.2.2.2.2.1, x.2.2.2.2.2.2.2.2.2.1, x.2.2.2.2.2.2.2.2.2.2.1, x.2.2.2.2.2.2.2.2.2.2.2.1, v, x.2.2.2.2.2.2.2.2.2.2.2.2.2.1, x.2.2.2.2.2.2.2.2.2.2.2.2.2.2.1, x.2.2.2.2.2.2.2.2.2.2.2.2.2.2.2.1, x.2.2.2.2.2.2.2.2.2.2.2.2.2.2.2.2.1, x.2.2.2.2.2.2.2.2.2.2.2.2.2.2.2.2.2.1, x.2.2.2.2.2.2.2.2.2.2.2.2.2.2.2.2.2.2.1, x.2.2.2.2.2.2.2.2.2.2.2.2.2.2.2.2.2.2.2.1, x.2.2.2.2.2.2.2.2.2.2.2.2.2.2.2.2.2.2.2.2.1, x.2.2.2.2.2.2.2.2.2.2.2.2.2.2.2.2.2.2.2.2.2.1, x.2.2.2.2.2.2.2.2.2.2.2.2.2.2.2.2.2.2.2.2.2.2)
abbrev ms_place (x : MdS) (v : Int32) : MdS := (x.1, x.2.1, x.2.2.1, x.2.2.2.1, x.2.2.2.2.1, x.2.2.2.2.2.1, x.2.2.2.2.2.2.1, x.2.2.2.2.2.2.2.1, x.2.2.2.2.2.2.2.2.1, x.2.2.2.2.2.2.2.2.2.1, x.2.2.2.2.2.2.2.2.2.2.1, x.2.2.2.2.2.2.2.2.2.2.2.1, x.2.2.2.2.2.2.2.2.2.2.2.2.1, v, x.2.2.2.2.2.2.2.2.2.2.2.2.2.2.1, x.2.2.2.2.2.2.2.2.2.2.2.2.2.2.2.1, x.2.2.2.2.2.2.2.2.2.2.2.2.2.2.2.2.1, x.2.2.2.2.2.2.2.2.2.2.2.2.2.2.2.2.2.1, x.2.2.2.2.2.2.2.2.2.2.2.2.2.2.2.2.2.2.1, x.2.2.2.2.2.2.2.2.2.2.2.2.2.2.2.2.2.2.2.1, x.2.2.2.2.2.2.2.2.2.2.2.2.2.2.2.2.2.2.2.2.1, x.2.2.2.2.2.2.2.2.2.2.2.2.2.2.2.2.2.2.2.2.2.1, x.2.2.2.2.2.2.2.2.2.2.2.2.2.2.2.2.2.2.2.2.2.2)
abbrev ms_stop (x : MdS) (v : Int32) : MdS := (x.1, x.2.1, x.2.2.1, x.2.2.2.1, x.2.2.2.2.1, x.2.2.2.2.2.1, x.2.2.2.2.2.2.1, x.2.2.2.2.2.2.2.1, x.2.2.2.2.2.2.2.2.1, x.2.2.2.2.2.2.2.2.2.1, x.2.2.2.2.2.2.2.2.2.2.1, x.2.2.2.2.2.2.2.2.2.2.2.1, x.2.2.2.2.2.2.2.2.2.2.2.2.1, x.2.2.2.2.2.2.2.2.2.2.2.2.2.1, v, x.2.2.2.2.2.2.2.2.2.2.2.2.2.2.2.1, x.2.2.2.2.2.2.2.2.2.2.2.2.2.2.2.2.1, x.2.2.2.2.2.2.2.2.2.2.2.2.2.2.2.2.2.1, x.2.2.2.2.2.2.2.2.2.2.2.2.2.2.2.2.2.2.1, x.2.2.2.2.2.2.2.2.2.2.2.2.2.2.2.2.2.2.2.1, x.2.2.2.2.2.2.2.2.2.2.2.2.2.2.2.2.2.2.2.2.1, x.2.2.2.2.2.2.2.2.2.2.2.2.2.2.2.2.2.2.2.2.2.1, x.2.2.2.2.2.2.2.2.2.2.2.2.2.2.2.2.2.2.2.2.2.2)
abbrev ms_readRule (x : MdS) (v : Int32) : MdS := (x.1, x.2.1, x.2.2.1, x.2.2.2.1, x.2.2.2.2.1, x.2.2.2.2.2.1, x.2.2.2.2.2.2.1, x.2.2.2.2.2.2.2.1, x.2.2.2.2.2.2.2.2.1, x.2.2.2.2.2.2.2.2.2.1, x.2.2.2.2.2.2.2.2.2.2.1, x.2.2.2.2.2.2.2.2.2.2.2.1, x.2.2.2.2.2.2.2.2.2.2.2.2.1, x.2.2.2.2.2.2.2.2.2.2.2.2.2.1, x.2.2.2.2.2.2.2.2.2.2.2.2.2.2.1, v, x.2.2.2.2.2.2.2.2.2.2.2.2.2.2.2.2.1, x.2.2.2.2.2.2.2.2.2.2.2.2.2.2.2.2.2.1, x.2.2.2.2.2.2.2.2.2.2.2.2.2.2.2.2.2.2.1, x.2.2.2.2.2.2.2.2.2.2.2.2.2.2.2.2.2.2.2.1, x.2.2.2.2.2.2.2.2.2.2.2.2.2.2.2.2.2.2.2.2.1, x.2.2.2.2.2.2.2.2.2.2.2.2.2.2.2.2.2.2.2.2.2.1, x.2.2.2.2.2.2.2.2.2.2.2.2.2.2.2.2.2.2.2.2.2.2)
abbrev ms_readChildren (x : MdS) (v : (Nat → Int32)) : MdS := (x.1, x.2.1, x.2.2.1, x.2.2.2.1, x.2.2.2.2.1, x.2.2.2.2.2.1, x.2.2.2.2.2.2.1, x.2.2.2.2.2.2.2.1, x.2.2.2.2.2.2.2.2.1, x.2.2.2.2.2.2.2.2.2.1, x.2.2.2.2.2.2.2.2.2.2.1, x.2.2.2.2.2.2.2.2.2.2.2.1, x.2.2.2.2.2.2.2.2.2.2.2.2.1, x.2.2.2.2.2.2.2.2.2.2.2.2.2.1, x.2.2.2.2.2.2.2.2.2.2.2.2.2.2.1, x.2.2.2.2.2.2.2.2.2.2.2.2.2.2.2.1, v, x.2.2.2.2.2.2.2.2.2.2.2.2.2.2.2.2.2.1, x.2.2.2.2.2.2.2.2.2.2.2.2.2.2.2.2.2.2.1, x.2.2.2.2.2.2.2.2.2.2.2.2.2.2.2.2.2.2.2.1, x.2.2.2.2.2.2.2.2.2.2.2.2.2.2.2.2.2.2.2.2.1, x.2.2.2.2.2.2.2.2.2.2.2.2.2.2.2.2.2.2.2.2.2.1, x.2.2.2.2.2.2.2.2.2.2.2.2.2.2.2.2.2.2.2.2.2.2)
abbrev ms_readMany (x : MdS) (v : Int32) : MdS := (x.1, x.2.1, x.2.2.1, x.2.2.2.1, x.2.2.2.2.1, x.2.2.2.2.2.1, x.2.2.2.2.2.2.1, x.2.2.2.2.2.2.2.1, x.2.2.2.2.2.2.2.2.1, x.2.2.2.2.2.2.2.2.2.1, x.2.2.2.2.2.2.2.2.2.2.1, x.2.2.2.2.2.2.2.2.2.2.2.1, x.2.2.2.2.2.2.2.2.2.2.2.2.1, x.2.2.2.2.2.2.2.2.2.2.2.2.2.1, x.2.2.2.2.2.2.2.2.2.2.2.2.2.2.1, x.2.2.2.2.2.2.2.2.2.2.2.2.2.2.2.1, x.2.2.2.2.2.2.2.2.2.2.2.2.2.2.2.2.1, v, x.2.2.2.2.2.2.2.2.2.2.2.2.2.2.2.2.2.2.1, x.2.2.2.2.2.2.2.2.2.2.2.2.2.2.2.2.2.2.2.1, x.2.2.2.2.2.2.2.2.2.2.2.2.2.2.2.2.2.2.2.2.1, x.2.2.2.2.2.2.2.2.2.2.2.2.2.2.2.2.2.2.2.2.2.1, x.2.2.2.2.2.2.2.2.2.2.2.2.2.2.2.2.2.2.2.2.2.2)
abbrev ms_readLikes (x : MdS) (v : (Nat → Int32)) : MdS := (x.1, x.2.1, x.2.2.1, x.2.2.2.1, x.2.2.2.2.1, x.2.2.2.2.2.1, x.2.2.2.2.2.2.1, x.2.2.2.2.2.2.2.1, x.2.2.2.2.2.2.2.2.1, x.2.2.2.2.2.2.2.2.2.1, x.2.2.2.2.2.2.2.2.2.2.1, x.2.2.2.2.2.2.2.2.2.2.2.1, x.2.2.2.2.2.2.2.2.2.2.2.2.1, x.2.2.2.2.2.2.2.2.2.2.2.2.2.1, x.2.2.2.2.2.2.2.2.2.2.2.2.2.2.1, x.2.2.2.2.2.2.2.2.2.2.2.2.2.2.2.1, x.2.2.2.2.2.2.2.2.2.2.2.2.2.2.2.2.1, x.2.2.2.2.2.2.2.2.2.2.2.2.2.2.2.2.2.1, v, x.2.2.2.2.2.2.2.2.2.2.2.2.2.2.2.2.2.2.2.1, x.2.2.2.2.2.2.2.2.2.2.2.2.2.2.2.2.2.2.2.2.1, x.2.2.2.2.2.2.2.2.2.2.2.2.2.2.2.2.2.2.2.2.2.1, x.2.2.2.2.2.2.2.2.2.2.2.2.2.2.2.2.2.2.2.2.2.2)
abbrev ms_readPairs (x : MdS) (v : Int32) : MdS := (x.1, x.2.1, x.2.2.1, x.2.2.2.1, x.2.2.2.2.1, x.2.2.2.2.2.1, x.2.2.2.2.2.2.1, x.2.2.2.2.2.2.2.1, x.2.2.2.2.2.2.2.2.1, x.2.2.2.2.2.2.2.2.2.1, x.2.2.2.2.2.2.2.2.2.2.1, x.2.2.2.2.2.2.2.2.2.2.2.1, x.2.2.2.2.2.2.2.2.2.2.2.2.1, x.2.2.2.2.2.2.2.2.2.2.2.2.2.1, x.2.2.2.2.2.2.2.2.2.2.2.2.2.2.1, x.2.2.2.2.2.2.2.2.2.2.2.2.2.2.2.1, x.2.2.2.2.2.2.2.2.2.2.2.2.2.2.2.2.1, x.2.2.2.2.2.2.2.2.2.2.2.2.2.2.2.2.2.1, x.2.2.2.2.2.2.2.2.2.2.2.2.2.2.2.2.2.2.1, v, x.2.2.2.2.2.2.2.2.2.2.2.2.2.2.2.2.2.2.2.2.1, x.2.2.2.2.2.2.2.2.2.2.2.2.2.2.2.2.2.2.2.2.2.1, x.2.2.2.2.2.2.2.2.2.2.2.2.2.2.2.2.2.2.2.2.2.2)
abbrev ms_outOf (x : MdS) (v : (Nat → Int32)) : MdS := (x.1, x.2.1, x.2.2.1, x.2.2.2.1, x.2.2.2.2.1, x.2.2.2.2.2.1, x.2.2.2.2.2.2.1, x.2.2.2.2.2.2.2.1, x.2.2.2.2.2.2.2.2.1, x.2.2.2.2.2.2.2.2.2.1, x.2.2.2.2.2.2.2.2.2.2.1, x.2.2.2.2.2.2.2.2.2.2.2.1, x.2.2.2.2.2.2.2.2.2.2.2.2.1, x.2.2.2.2.2.2.2.2.2.2.2.2.2.1, x.2.2.2.2.2.2.2.2.2.2.2.2.2.2.1, x.2.2.2.2.2.2.2.2.2.2.2.2.2.2.2.1, x.2.2.2.2.2.2.2.2.2.2.2.2.2.2.2.2.1, x.2.2.2.2.2.2.2.2.2.2.2.2.2.2.2.2.2.1, x.2.2.2.2.2.2.2.2.2.2.2.2.2.2.2.2.2.2.1, x.2.2.2.2.2.2.2.2.2.2.2.2.2.2.2.2.2.2.2.1, v, x.2.2.2.2.2.2.2.2.2.2.2.2.2.2.2.2.2.2.2.2.2.1, x.2.2.2.2.2.2.2.2.2.2.2.2.2.2.2.2.2.2.2.2.2.2)
abbrev ms_longer (x : MdS) (v : (Nat → Int32)) : MdS := (x.1, x.2.1, x.2.2.1, x.2.2.2.1, x.2.2.2.2.1, x.2.2.2.2.2.1, x.2.2.2.2.2.2.1, x.2.2.2.2.2.2.2.1, x.2.2.2.2.2.2.2.2.1, x.2.2.2.2.2.2.2.2.2.1, x.2.2.2.2.2.2.2.2.2.2.1, x.2.2.2.2.2.2.2.2.2.2.2.1, x.2.2.2.2.2.2.2.2.2.2.2.2.1, x.2.2.2.2.2.2.2.2.2.2.2.2.2.1, x.2.2.2.2.2.2.2.2.2.2.2.2.2.2.1, x.2.2.2.2.2.2.2.2.2.2.2.2.2.2.2.1, x.2.2.2.2.2.2.2.2.2.2.2.2.2.2.2.2.1, x.2.2.2.2.2.2.2.2.2.2.2.2.2.2.2.2.2.1, x.2.2.2.2.2.2.2.2.2.2.2.2.2.2.2.2.2.2.1, x.2.2.2.2.2.2.2.2.2.2.2.2.2.2.2.2.2.2.2.1, x.2.2.2.2.2.2.2.2.2.2.2.2.2.2.2.2.2.2.2.2.1, v, x.2.2.2.2.2.2.2.2.2.2.2.2.2.2.2.2.2.2.2.2.2.2)
abbrev ms_ways (x : MdS) (v : (Nat → Int64)) : MdS := (x.1, x.2.1, x.2.2.1, x.2.2.2.1, x.2.2.2.2.1, x.2.2.2.2.2.1, x.2.2.2.2.2.2.1, x.2.2.2.2.2.2.2.1, x.2.2.2.2.2.2.2.2.1, x.2.2.2.2.2.2.2.2.2.1, x.2.2.2.2.2.2.2.2.2.2.1, x.2.2.2.2.2.2.2.2.2.2.2.1, x.2.2.2.2.2.2.2.2.2.2.2.2.1, x.2.2.2.2.2.2.2.2.2.2.2.2.2.1, x.2.2.2.2.2.2.2.2.2.2.2.2.2.2.1, x.2.2.2.2.2.2.2.2.2.2.2.2.2.2.2.1, x.2.2.2.2.2.2.2.2.2.2.2.2.2.2.2.2.1, x.2.2.2.2.2.2.2.2.2.2.2.2.2.2.2.2.2.1, x.2.2.2.2.2.2.2.2.2.2.2.2.2.2.2.2.2.2.1, x.2.2.2.2.2.2.2.2.2.2.2.2.2.2.2.2.2.2.2.1, x.2.2.2.2.2.2.2.2.2.2.2.2.2.2.2.2.2.2.2.2.1, x.2.2.2.2.2.2.2.2.2.2.2.2.2.2.2.2.2.2.2.2.2.1, v)
def ra_Row (k : Nat) : Option Nat := some (2 + 2 * k)
def ra_Text (k : Nat) : Option Nat := some (15 + 2 * k)
def ra_Kept (k : Nat) : Option Nat := some (34 + 5 * k)
def rp_Row (r : RowS) : List va_E := [.inr (3, [.ref 1, .int (ro_size r)]),
  .inl (0, 40, .inl (ro_places r))]
theorem at_Row_0 (r : RowS) : (rp_Row r)[0]? = some (.inr (3, [.ref 1, .int (ro_size r)])) := rfl
theorem st_Row_0_1 (r : RowS) (v : Int32) : (rp_Row r).set 0 (.inr (3, [.ref 1, .int (ro_size r)].set 1 (.int v))) = rp_Row (rs_size r v) := rfl
theorem at_Row_1 (r : RowS) : (rp_Row r)[1]? = some (.inl (0, 40, .inl (ro_places r))) := rfl
theorem st_Row_1 (r : RowS) (v : Nat → Int32) : (rp_Row r).set 1 (.inl (0, 40, .inl v)) = rp_Row (rs_places r v) := rfl
def rp_Tex (t : TexS) : List va_E := [.inr (4, [.ref 1, .int (te_size t)]),
  .inl (2, 60, .inl (te_bytes t))]
theorem at_Tex_0 (t : TexS) : (rp_Tex t)[0]? = some (.inr (4, [.ref 1, .int (te_size t)])) := rfl
theorem st_Tex_0_1 (t : TexS) (v : Int32) : (rp_Tex t).set 0 (.inr (4, [.ref 1, .int (te_size t)].set 1 (.int v))) = rp_Tex (ts_size t v) := rfl
theorem at_Tex_1 (t : TexS) : (rp_Tex t)[1]? = some (.inl (2, 60, .inl (te_bytes t))) := rfl
theorem st_Tex_1 (t : TexS) (v : Nat → Int32) : (rp_Tex t).set 1 (.inl (2, 60, .inl v)) = rp_Tex (ts_bytes t v) := rfl
def rp_Club (c : CluS) : List va_E := [.inr (0, [.ref 1, .ref 2, .ref 3, .ref 4, .int (cl_children c), .int (cl_rule c), .int (cl_inn c), .int (cl_tin c), .int (cl_dc c)]),
  .inl (0, 6, .inl (cl_kinds c)),
  .inl (0, 6, .inl (cl_pence c)),
  .inl (0, 6, .inl (cl_liked c)),
  .inl (0, 40, .inl (cl_deeds c))]
theorem at_Club_0 (c : CluS) : (rp_Club c)[0]? = some (.inr (0, [.ref 1, .ref 2, .ref 3, .ref 4, .int (cl_children c), .int (cl_rule c), .int (cl_inn c), .int (cl_tin c), .int (cl_dc c)])) := rfl
theorem st_Club_0_4 (c : CluS) (v : Int32) : (rp_Club c).set 0 (.inr (0, [.ref 1, .ref 2, .ref 3, .ref 4, .int (cl_children c), .int (cl_rule c), .int (cl_inn c), .int (cl_tin c), .int (cl_dc c)].set 4 (.int v))) = rp_Club (cs_children c v) := rfl
theorem st_Club_0_5 (c : CluS) (v : Int32) : (rp_Club c).set 0 (.inr (0, [.ref 1, .ref 2, .ref 3, .ref 4, .int (cl_children c), .int (cl_rule c), .int (cl_inn c), .int (cl_tin c), .int (cl_dc c)].set 5 (.int v))) = rp_Club (cs_rule c v) := rfl
theorem st_Club_0_6 (c : CluS) (v : Int32) : (rp_Club c).set 0 (.inr (0, [.ref 1, .ref 2, .ref 3, .ref 4, .int (cl_children c), .int (cl_rule c), .int (cl_inn c), .int (cl_tin c), .int (cl_dc c)].set 6 (.int v))) = rp_Club (cs_inn c v) := rfl
theorem st_Club_0_7 (c : CluS) (v : Int32) : (rp_Club c).set 0 (.inr (0, [.ref 1, .ref 2, .ref 3, .ref 4, .int (cl_children c), .int (cl_rule c), .int (cl_inn c), .int (cl_tin c), .int (cl_dc c)].set 7 (.int v))) = rp_Club (cs_tin c v) := rfl
theorem st_Club_0_8 (c : CluS) (v : Int32) : (rp_Club c).set 0 (.inr (0, [.ref 1, .ref 2, .ref 3, .ref 4, .int (cl_children c), .int (cl_rule c), .int (cl_inn c), .int (cl_tin c), .int (cl_dc c)].set 8 (.int v))) = rp_Club (cs_dc c v) := rfl
theorem at_Club_1 (c : CluS) : (rp_Club c)[1]? = some (.inl (0, 6, .inl (cl_kinds c))) := rfl
theorem st_Club_1 (c : CluS) (v : Nat → Int32) : (rp_Club c).set 1 (.inl (0, 6, .inl v)) = rp_Club (cs_kinds c v) := rfl
theorem at_Club_2 (c : CluS) : (rp_Club c)[2]? = some (.inl (0, 6, .inl (cl_pence c))) := rfl
theorem st_Club_2 (c : CluS) (v : Nat → Int32) : (rp_Club c).set 2 (.inl (0, 6, .inl v)) = rp_Club (cs_pence c v) := rfl
theorem at_Club_3 (c : CluS) : (rp_Club c)[3]? = some (.inl (0, 6, .inl (cl_liked c))) := rfl
theorem st_Club_3 (c : CluS) (v : Nat → Int32) : (rp_Club c).set 3 (.inl (0, 6, .inl v)) = rp_Club (cs_liked c v) := rfl
theorem at_Club_4 (c : CluS) : (rp_Club c)[4]? = some (.inl (0, 40, .inl (cl_deeds c))) := rfl
theorem st_Club_4 (c : CluS) (v : Nat → Int32) : (rp_Club c).set 4 (.inl (0, 40, .inl v)) = rp_Club (cs_deeds c v) := rfl
def rp_Club2 (c : CluS) (d : CluS) : List va_E := [.inr (0, [.ref 1, .ref 2, .ref 3, .ref 4, .int (cl_children c), .int (cl_rule c), .int (cl_inn c), .int (cl_tin c), .int (cl_dc c)]),
  .inl (0, 6, .inl (cl_kinds c)),
  .inl (0, 6, .inl (cl_pence c)),
  .inl (0, 6, .inl (cl_liked c)),
  .inl (0, 40, .inl (cl_deeds c)),
  .inr (0, [.ref 6, .ref 7, .ref 8, .ref 9, .int (cl_children d), .int (cl_rule d), .int (cl_inn d), .int (cl_tin d), .int (cl_dc d)]),
  .inl (0, 6, .inl (cl_kinds d)),
  .inl (0, 6, .inl (cl_pence d)),
  .inl (0, 6, .inl (cl_liked d)),
  .inl (0, 40, .inl (cl_deeds d))]
theorem at_Club2_0 (c : CluS) (d : CluS) : (rp_Club2 c d)[0]? = some (.inr (0, [.ref 1, .ref 2, .ref 3, .ref 4, .int (cl_children c), .int (cl_rule c), .int (cl_inn c), .int (cl_tin c), .int (cl_dc c)])) := rfl
theorem st_Club2_0_4 (c : CluS) (d : CluS) (v : Int32) : (rp_Club2 c d).set 0 (.inr (0, [.ref 1, .ref 2, .ref 3, .ref 4, .int (cl_children c), .int (cl_rule c), .int (cl_inn c), .int (cl_tin c), .int (cl_dc c)].set 4 (.int v))) = rp_Club2 (cs_children c v) d := rfl
theorem st_Club2_0_5 (c : CluS) (d : CluS) (v : Int32) : (rp_Club2 c d).set 0 (.inr (0, [.ref 1, .ref 2, .ref 3, .ref 4, .int (cl_children c), .int (cl_rule c), .int (cl_inn c), .int (cl_tin c), .int (cl_dc c)].set 5 (.int v))) = rp_Club2 (cs_rule c v) d := rfl
theorem st_Club2_0_6 (c : CluS) (d : CluS) (v : Int32) : (rp_Club2 c d).set 0 (.inr (0, [.ref 1, .ref 2, .ref 3, .ref 4, .int (cl_children c), .int (cl_rule c), .int (cl_inn c), .int (cl_tin c), .int (cl_dc c)].set 6 (.int v))) = rp_Club2 (cs_inn c v) d := rfl
theorem st_Club2_0_7 (c : CluS) (d : CluS) (v : Int32) : (rp_Club2 c d).set 0 (.inr (0, [.ref 1, .ref 2, .ref 3, .ref 4, .int (cl_children c), .int (cl_rule c), .int (cl_inn c), .int (cl_tin c), .int (cl_dc c)].set 7 (.int v))) = rp_Club2 (cs_tin c v) d := rfl
theorem st_Club2_0_8 (c : CluS) (d : CluS) (v : Int32) : (rp_Club2 c d).set 0 (.inr (0, [.ref 1, .ref 2, .ref 3, .ref 4, .int (cl_children c), .int (cl_rule c), .int (cl_inn c), .int (cl_tin c), .int (cl_dc c)].set 8 (.int v))) = rp_Club2 (cs_dc c v) d := rfl
theorem at_Club2_1 (c : CluS) (d : CluS) : (rp_Club2 c d)[1]? = some (.inl (0, 6, .inl (cl_kinds c))) := rfl
theorem st_Club2_1 (c : CluS) (d : CluS) (v : Nat → Int32) : (rp_Club2 c d).set 1 (.inl (0, 6, .inl v)) = rp_Club2 (cs_kinds c v) d := rfl
theorem at_Club2_2 (c : CluS) (d : CluS) : (rp_Club2 c d)[2]? = some (.inl (0, 6, .inl (cl_pence c))) := rfl
theorem st_Club2_2 (c : CluS) (d : CluS) (v : Nat → Int32) : (rp_Club2 c d).set 2 (.inl (0, 6, .inl v)) = rp_Club2 (cs_pence c v) d := rfl
theorem at_Club2_3 (c : CluS) (d : CluS) : (rp_Club2 c d)[3]? = some (.inl (0, 6, .inl (cl_liked c))) := rfl
theorem st_Club2_3 (c : CluS) (d : CluS) (v : Nat → Int32) : (rp_Club2 c d).set 3 (.inl (0, 6, .inl v)) = rp_Club2 (cs_liked c v) d := rfl
theorem at_Club2_4 (c : CluS) (d : CluS) : (rp_Club2 c d)[4]? = some (.inl (0, 40, .inl (cl_deeds c))) := rfl
theorem st_Club2_4 (c : CluS) (d : CluS) (v : Nat → Int32) : (rp_Club2 c d).set 4 (.inl (0, 40, .inl v)) = rp_Club2 (cs_deeds c v) d := rfl
theorem at_Club2_5 (c : CluS) (d : CluS) : (rp_Club2 c d)[5]? = some (.inr (0, [.ref 6, .ref 7, .ref 8, .ref 9, .int (cl_children d), .int (cl_rule d), .int (cl_inn d), .int (cl_tin d), .int (cl_dc d)])) := rfl
theorem st_Club2_5_4 (c : CluS) (d : CluS) (v : Int32) : (rp_Club2 c d).set 5 (.inr (0, [.ref 6, .ref 7, .ref 8, .ref 9, .int (cl_children d), .int (cl_rule d), .int (cl_inn d), .int (cl_tin d), .int (cl_dc d)].set 4 (.int v))) = rp_Club2 c (cs_children d v) := rfl
theorem st_Club2_5_5 (c : CluS) (d : CluS) (v : Int32) : (rp_Club2 c d).set 5 (.inr (0, [.ref 6, .ref 7, .ref 8, .ref 9, .int (cl_children d), .int (cl_rule d), .int (cl_inn d), .int (cl_tin d), .int (cl_dc d)].set 5 (.int v))) = rp_Club2 c (cs_rule d v) := rfl
theorem st_Club2_5_6 (c : CluS) (d : CluS) (v : Int32) : (rp_Club2 c d).set 5 (.inr (0, [.ref 6, .ref 7, .ref 8, .ref 9, .int (cl_children d), .int (cl_rule d), .int (cl_inn d), .int (cl_tin d), .int (cl_dc d)].set 6 (.int v))) = rp_Club2 c (cs_inn d v) := rfl
theorem st_Club2_5_7 (c : CluS) (d : CluS) (v : Int32) : (rp_Club2 c d).set 5 (.inr (0, [.ref 6, .ref 7, .ref 8, .ref 9, .int (cl_children d), .int (cl_rule d), .int (cl_inn d), .int (cl_tin d), .int (cl_dc d)].set 7 (.int v))) = rp_Club2 c (cs_tin d v) := rfl
theorem st_Club2_5_8 (c : CluS) (d : CluS) (v : Int32) : (rp_Club2 c d).set 5 (.inr (0, [.ref 6, .ref 7, .ref 8, .ref 9, .int (cl_children d), .int (cl_rule d), .int (cl_inn d), .int (cl_tin d), .int (cl_dc d)].set 8 (.int v))) = rp_Club2 c (cs_dc d v) := rfl
theorem at_Club2_6 (c : CluS) (d : CluS) : (rp_Club2 c d)[6]? = some (.inl (0, 6, .inl (cl_kinds d))) := rfl
theorem st_Club2_6 (c : CluS) (d : CluS) (v : Nat → Int32) : (rp_Club2 c d).set 6 (.inl (0, 6, .inl v)) = rp_Club2 c (cs_kinds d v) := rfl
theorem at_Club2_7 (c : CluS) (d : CluS) : (rp_Club2 c d)[7]? = some (.inl (0, 6, .inl (cl_pence d))) := rfl
theorem st_Club2_7 (c : CluS) (d : CluS) (v : Nat → Int32) : (rp_Club2 c d).set 7 (.inl (0, 6, .inl v)) = rp_Club2 c (cs_pence d v) := rfl
theorem at_Club2_8 (c : CluS) (d : CluS) : (rp_Club2 c d)[8]? = some (.inl (0, 6, .inl (cl_liked d))) := rfl
theorem st_Club2_8 (c : CluS) (d : CluS) (v : Nat → Int32) : (rp_Club2 c d).set 8 (.inl (0, 6, .inl v)) = rp_Club2 c (cs_liked d v) := rfl
theorem at_Club2_9 (c : CluS) (d : CluS) : (rp_Club2 c d)[9]? = some (.inl (0, 40, .inl (cl_deeds d))) := rfl
theorem st_Club2_9 (c : CluS) (d : CluS) (v : Nat → Int32) : (rp_Club2 c d).set 9 (.inl (0, 40, .inl v)) = rp_Club2 c (cs_deeds d v) := rfl
def rp_Ord (o : (Nat → Int32)) (c : CluS) : List va_E := [.inr (1, [.ref 2, .ref 1]),
  .inl (0, 64, .inl o),
  .inr (0, [.ref 3, .ref 4, .ref 5, .ref 6, .int (cl_children c), .int (cl_rule c), .int (cl_inn c), .int (cl_tin c), .int (cl_dc c)]),
  .inl (0, 6, .inl (cl_kinds c)),
  .inl (0, 6, .inl (cl_pence c)),
  .inl (0, 6, .inl (cl_liked c)),
  .inl (0, 40, .inl (cl_deeds c))]
theorem at_Ord_0 (o : (Nat → Int32)) (c : CluS) : (rp_Ord o c)[0]? = some (.inr (1, [.ref 2, .ref 1])) := rfl
theorem at_Ord_1 (o : (Nat → Int32)) (c : CluS) : (rp_Ord o c)[1]? = some (.inl (0, 64, .inl o)) := rfl
theorem st_Ord_1 (o : (Nat → Int32)) (c : CluS) (v : Nat → Int32) : (rp_Ord o c).set 1 (.inl (0, 64, .inl v)) = rp_Ord v c := rfl
theorem at_Ord_2 (o : (Nat → Int32)) (c : CluS) : (rp_Ord o c)[2]? = some (.inr (0, [.ref 3, .ref 4, .ref 5, .ref 6, .int (cl_children c), .int (cl_rule c), .int (cl_inn c), .int (cl_tin c), .int (cl_dc c)])) := rfl
theorem st_Ord_2_4 (o : (Nat → Int32)) (c : CluS) (v : Int32) : (rp_Ord o c).set 2 (.inr (0, [.ref 3, .ref 4, .ref 5, .ref 6, .int (cl_children c), .int (cl_rule c), .int (cl_inn c), .int (cl_tin c), .int (cl_dc c)].set 4 (.int v))) = rp_Ord o (cs_children c v) := rfl
theorem st_Ord_2_5 (o : (Nat → Int32)) (c : CluS) (v : Int32) : (rp_Ord o c).set 2 (.inr (0, [.ref 3, .ref 4, .ref 5, .ref 6, .int (cl_children c), .int (cl_rule c), .int (cl_inn c), .int (cl_tin c), .int (cl_dc c)].set 5 (.int v))) = rp_Ord o (cs_rule c v) := rfl
theorem st_Ord_2_6 (o : (Nat → Int32)) (c : CluS) (v : Int32) : (rp_Ord o c).set 2 (.inr (0, [.ref 3, .ref 4, .ref 5, .ref 6, .int (cl_children c), .int (cl_rule c), .int (cl_inn c), .int (cl_tin c), .int (cl_dc c)].set 6 (.int v))) = rp_Ord o (cs_inn c v) := rfl
theorem st_Ord_2_7 (o : (Nat → Int32)) (c : CluS) (v : Int32) : (rp_Ord o c).set 2 (.inr (0, [.ref 3, .ref 4, .ref 5, .ref 6, .int (cl_children c), .int (cl_rule c), .int (cl_inn c), .int (cl_tin c), .int (cl_dc c)].set 7 (.int v))) = rp_Ord o (cs_tin c v) := rfl
theorem st_Ord_2_8 (o : (Nat → Int32)) (c : CluS) (v : Int32) : (rp_Ord o c).set 2 (.inr (0, [.ref 3, .ref 4, .ref 5, .ref 6, .int (cl_children c), .int (cl_rule c), .int (cl_inn c), .int (cl_tin c), .int (cl_dc c)].set 8 (.int v))) = rp_Ord o (cs_dc c v) := rfl
theorem at_Ord_3 (o : (Nat → Int32)) (c : CluS) : (rp_Ord o c)[3]? = some (.inl (0, 6, .inl (cl_kinds c))) := rfl
theorem st_Ord_3 (o : (Nat → Int32)) (c : CluS) (v : Nat → Int32) : (rp_Ord o c).set 3 (.inl (0, 6, .inl v)) = rp_Ord o (cs_kinds c v) := rfl
theorem at_Ord_4 (o : (Nat → Int32)) (c : CluS) : (rp_Ord o c)[4]? = some (.inl (0, 6, .inl (cl_pence c))) := rfl
theorem st_Ord_4 (o : (Nat → Int32)) (c : CluS) (v : Nat → Int32) : (rp_Ord o c).set 4 (.inl (0, 6, .inl v)) = rp_Ord o (cs_pence c v) := rfl
theorem at_Ord_5 (o : (Nat → Int32)) (c : CluS) : (rp_Ord o c)[5]? = some (.inl (0, 6, .inl (cl_liked c))) := rfl
theorem st_Ord_5 (o : (Nat → Int32)) (c : CluS) (v : Nat → Int32) : (rp_Ord o c).set 5 (.inl (0, 6, .inl v)) = rp_Ord o (cs_liked c v) := rfl
theorem at_Ord_6 (o : (Nat → Int32)) (c : CluS) : (rp_Ord o c)[6]? = some (.inl (0, 40, .inl (cl_deeds c))) := rfl
theorem st_Ord_6 (o : (Nat → Int32)) (c : CluS) (v : Nat → Int32) : (rp_Ord o c).set 6 (.inl (0, 40, .inl v)) = rp_Ord o (cs_deeds c v) := rfl
def rp_OrdR (o : (Nat → Int32)) (c : CluS) (r : RowS) : List va_E := [.inr (1, [.ref 2, .ref 1]),
  .inl (0, 64, .inl o),
  .inr (0, [.ref 3, .ref 4, .ref 5, .ref 6, .int (cl_children c), .int (cl_rule c), .int (cl_inn c), .int (cl_tin c), .int (cl_dc c)]),
  .inl (0, 6, .inl (cl_kinds c)),
  .inl (0, 6, .inl (cl_pence c)),
  .inl (0, 6, .inl (cl_liked c)),
  .inl (0, 40, .inl (cl_deeds c)),
  .inr (3, [.ref 8, .int (ro_size r)]),
  .inl (0, 40, .inl (ro_places r))]
theorem at_OrdR_0 (o : (Nat → Int32)) (c : CluS) (r : RowS) : (rp_OrdR o c r)[0]? = some (.inr (1, [.ref 2, .ref 1])) := rfl
theorem at_OrdR_1 (o : (Nat → Int32)) (c : CluS) (r : RowS) : (rp_OrdR o c r)[1]? = some (.inl (0, 64, .inl o)) := rfl
theorem st_OrdR_1 (o : (Nat → Int32)) (c : CluS) (r : RowS) (v : Nat → Int32) : (rp_OrdR o c r).set 1 (.inl (0, 64, .inl v)) = rp_OrdR v c r := rfl
theorem at_OrdR_2 (o : (Nat → Int32)) (c : CluS) (r : RowS) : (rp_OrdR o c r)[2]? = some (.inr (0, [.ref 3, .ref 4, .ref 5, .ref 6, .int (cl_children c), .int (cl_rule c), .int (cl_inn c), .int (cl_tin c), .int (cl_dc c)])) := rfl
theorem st_OrdR_2_4 (o : (Nat → Int32)) (c : CluS) (r : RowS) (v : Int32) : (rp_OrdR o c r).set 2 (.inr (0, [.ref 3, .ref 4, .ref 5, .ref 6, .int (cl_children c), .int (cl_rule c), .int (cl_inn c), .int (cl_tin c), .int (cl_dc c)].set 4 (.int v))) = rp_OrdR o (cs_children c v) r := rfl
theorem st_OrdR_2_5 (o : (Nat → Int32)) (c : CluS) (r : RowS) (v : Int32) : (rp_OrdR o c r).set 2 (.inr (0, [.ref 3, .ref 4, .ref 5, .ref 6, .int (cl_children c), .int (cl_rule c), .int (cl_inn c), .int (cl_tin c), .int (cl_dc c)].set 5 (.int v))) = rp_OrdR o (cs_rule c v) r := rfl
theorem st_OrdR_2_6 (o : (Nat → Int32)) (c : CluS) (r : RowS) (v : Int32) : (rp_OrdR o c r).set 2 (.inr (0, [.ref 3, .ref 4, .ref 5, .ref 6, .int (cl_children c), .int (cl_rule c), .int (cl_inn c), .int (cl_tin c), .int (cl_dc c)].set 6 (.int v))) = rp_OrdR o (cs_inn c v) r := rfl
theorem st_OrdR_2_7 (o : (Nat → Int32)) (c : CluS) (r : RowS) (v : Int32) : (rp_OrdR o c r).set 2 (.inr (0, [.ref 3, .ref 4, .ref 5, .ref 6, .int (cl_children c), .int (cl_rule c), .int (cl_inn c), .int (cl_tin c), .int (cl_dc c)].set 7 (.int v))) = rp_OrdR o (cs_tin c v) r := rfl
theorem st_OrdR_2_8 (o : (Nat → Int32)) (c : CluS) (r : RowS) (v : Int32) : (rp_OrdR o c r).set 2 (.inr (0, [.ref 3, .ref 4, .ref 5, .ref 6, .int (cl_children c), .int (cl_rule c), .int (cl_inn c), .int (cl_tin c), .int (cl_dc c)].set 8 (.int v))) = rp_OrdR o (cs_dc c v) r := rfl
theorem at_OrdR_3 (o : (Nat → Int32)) (c : CluS) (r : RowS) : (rp_OrdR o c r)[3]? = some (.inl (0, 6, .inl (cl_kinds c))) := rfl
theorem st_OrdR_3 (o : (Nat → Int32)) (c : CluS) (r : RowS) (v : Nat → Int32) : (rp_OrdR o c r).set 3 (.inl (0, 6, .inl v)) = rp_OrdR o (cs_kinds c v) r := rfl
theorem at_OrdR_4 (o : (Nat → Int32)) (c : CluS) (r : RowS) : (rp_OrdR o c r)[4]? = some (.inl (0, 6, .inl (cl_pence c))) := rfl
theorem st_OrdR_4 (o : (Nat → Int32)) (c : CluS) (r : RowS) (v : Nat → Int32) : (rp_OrdR o c r).set 4 (.inl (0, 6, .inl v)) = rp_OrdR o (cs_pence c v) r := rfl
theorem at_OrdR_5 (o : (Nat → Int32)) (c : CluS) (r : RowS) : (rp_OrdR o c r)[5]? = some (.inl (0, 6, .inl (cl_liked c))) := rfl
theorem st_OrdR_5 (o : (Nat → Int32)) (c : CluS) (r : RowS) (v : Nat → Int32) : (rp_OrdR o c r).set 5 (.inl (0, 6, .inl v)) = rp_OrdR o (cs_liked c v) r := rfl
theorem at_OrdR_6 (o : (Nat → Int32)) (c : CluS) (r : RowS) : (rp_OrdR o c r)[6]? = some (.inl (0, 40, .inl (cl_deeds c))) := rfl
theorem st_OrdR_6 (o : (Nat → Int32)) (c : CluS) (r : RowS) (v : Nat → Int32) : (rp_OrdR o c r).set 6 (.inl (0, 40, .inl v)) = rp_OrdR o (cs_deeds c v) r := rfl
theorem at_OrdR_7 (o : (Nat → Int32)) (c : CluS) (r : RowS) : (rp_OrdR o c r)[7]? = some (.inr (3, [.ref 8, .int (ro_size r)])) := rfl
theorem st_OrdR_7_1 (o : (Nat → Int32)) (c : CluS) (r : RowS) (v : Int32) : (rp_OrdR o c r).set 7 (.inr (3, [.ref 8, .int (ro_size r)].set 1 (.int v))) = rp_OrdR o c (rs_size r v) := rfl
theorem at_OrdR_8 (o : (Nat → Int32)) (c : CluS) (r : RowS) : (rp_OrdR o c r)[8]? = some (.inl (0, 40, .inl (ro_places r))) := rfl
theorem st_OrdR_8 (o : (Nat → Int32)) (c : CluS) (r : RowS) (v : Nat → Int32) : (rp_OrdR o c r).set 8 (.inl (0, 40, .inl v)) = rp_OrdR o c (rs_places r v) := rfl
def rp_Rdr (d : RdS) (t : TexS) (c : CluS) : List va_E := [.inr (2, [.int (rd_place d), .int (rd_pairs d)]),
  .inr (4, [.ref 2, .int (te_size t)]),
  .inl (2, 60, .inl (te_bytes t)),
  .inr (0, [.ref 4, .ref 5, .ref 6, .ref 7, .int (cl_children c), .int (cl_rule c), .int (cl_inn c), .int (cl_tin c), .int (cl_dc c)]),
  .inl (0, 6, .inl (cl_kinds c)),
  .inl (0, 6, .inl (cl_pence c)),
  .inl (0, 6, .inl (cl_liked c)),
  .inl (0, 40, .inl (cl_deeds c))]
theorem at_Rdr_0 (d : RdS) (t : TexS) (c : CluS) : (rp_Rdr d t c)[0]? = some (.inr (2, [.int (rd_place d), .int (rd_pairs d)])) := rfl
theorem st_Rdr_0_0 (d : RdS) (t : TexS) (c : CluS) (v : Int32) : (rp_Rdr d t c).set 0 (.inr (2, [.int (rd_place d), .int (rd_pairs d)].set 0 (.int v))) = rp_Rdr (ds_place d v) t c := rfl
theorem st_Rdr_0_1 (d : RdS) (t : TexS) (c : CluS) (v : Int32) : (rp_Rdr d t c).set 0 (.inr (2, [.int (rd_place d), .int (rd_pairs d)].set 1 (.int v))) = rp_Rdr (ds_pairs d v) t c := rfl
theorem at_Rdr_1 (d : RdS) (t : TexS) (c : CluS) : (rp_Rdr d t c)[1]? = some (.inr (4, [.ref 2, .int (te_size t)])) := rfl
theorem st_Rdr_1_1 (d : RdS) (t : TexS) (c : CluS) (v : Int32) : (rp_Rdr d t c).set 1 (.inr (4, [.ref 2, .int (te_size t)].set 1 (.int v))) = rp_Rdr d (ts_size t v) c := rfl
theorem at_Rdr_2 (d : RdS) (t : TexS) (c : CluS) : (rp_Rdr d t c)[2]? = some (.inl (2, 60, .inl (te_bytes t))) := rfl
theorem st_Rdr_2 (d : RdS) (t : TexS) (c : CluS) (v : Nat → Int32) : (rp_Rdr d t c).set 2 (.inl (2, 60, .inl v)) = rp_Rdr d (ts_bytes t v) c := rfl
theorem at_Rdr_3 (d : RdS) (t : TexS) (c : CluS) : (rp_Rdr d t c)[3]? = some (.inr (0, [.ref 4, .ref 5, .ref 6, .ref 7, .int (cl_children c), .int (cl_rule c), .int (cl_inn c), .int (cl_tin c), .int (cl_dc c)])) := rfl
theorem st_Rdr_3_4 (d : RdS) (t : TexS) (c : CluS) (v : Int32) : (rp_Rdr d t c).set 3 (.inr (0, [.ref 4, .ref 5, .ref 6, .ref 7, .int (cl_children c), .int (cl_rule c), .int (cl_inn c), .int (cl_tin c), .int (cl_dc c)].set 4 (.int v))) = rp_Rdr d t (cs_children c v) := rfl
theorem st_Rdr_3_5 (d : RdS) (t : TexS) (c : CluS) (v : Int32) : (rp_Rdr d t c).set 3 (.inr (0, [.ref 4, .ref 5, .ref 6, .ref 7, .int (cl_children c), .int (cl_rule c), .int (cl_inn c), .int (cl_tin c), .int (cl_dc c)].set 5 (.int v))) = rp_Rdr d t (cs_rule c v) := rfl
theorem st_Rdr_3_6 (d : RdS) (t : TexS) (c : CluS) (v : Int32) : (rp_Rdr d t c).set 3 (.inr (0, [.ref 4, .ref 5, .ref 6, .ref 7, .int (cl_children c), .int (cl_rule c), .int (cl_inn c), .int (cl_tin c), .int (cl_dc c)].set 6 (.int v))) = rp_Rdr d t (cs_inn c v) := rfl
theorem st_Rdr_3_7 (d : RdS) (t : TexS) (c : CluS) (v : Int32) : (rp_Rdr d t c).set 3 (.inr (0, [.ref 4, .ref 5, .ref 6, .ref 7, .int (cl_children c), .int (cl_rule c), .int (cl_inn c), .int (cl_tin c), .int (cl_dc c)].set 7 (.int v))) = rp_Rdr d t (cs_tin c v) := rfl
theorem st_Rdr_3_8 (d : RdS) (t : TexS) (c : CluS) (v : Int32) : (rp_Rdr d t c).set 3 (.inr (0, [.ref 4, .ref 5, .ref 6, .ref 7, .int (cl_children c), .int (cl_rule c), .int (cl_inn c), .int (cl_tin c), .int (cl_dc c)].set 8 (.int v))) = rp_Rdr d t (cs_dc c v) := rfl
theorem at_Rdr_4 (d : RdS) (t : TexS) (c : CluS) : (rp_Rdr d t c)[4]? = some (.inl (0, 6, .inl (cl_kinds c))) := rfl
theorem st_Rdr_4 (d : RdS) (t : TexS) (c : CluS) (v : Nat → Int32) : (rp_Rdr d t c).set 4 (.inl (0, 6, .inl v)) = rp_Rdr d t (cs_kinds c v) := rfl
theorem at_Rdr_5 (d : RdS) (t : TexS) (c : CluS) : (rp_Rdr d t c)[5]? = some (.inl (0, 6, .inl (cl_pence c))) := rfl
theorem st_Rdr_5 (d : RdS) (t : TexS) (c : CluS) (v : Nat → Int32) : (rp_Rdr d t c).set 5 (.inl (0, 6, .inl v)) = rp_Rdr d t (cs_pence c v) := rfl
theorem at_Rdr_6 (d : RdS) (t : TexS) (c : CluS) : (rp_Rdr d t c)[6]? = some (.inl (0, 6, .inl (cl_liked c))) := rfl
theorem st_Rdr_6 (d : RdS) (t : TexS) (c : CluS) (v : Nat → Int32) : (rp_Rdr d t c).set 6 (.inl (0, 6, .inl v)) = rp_Rdr d t (cs_liked c v) := rfl
theorem at_Rdr_7 (d : RdS) (t : TexS) (c : CluS) : (rp_Rdr d t c)[7]? = some (.inl (0, 40, .inl (cl_deeds c))) := rfl
theorem st_Rdr_7 (d : RdS) (t : TexS) (c : CluS) (v : Nat → Int32) : (rp_Rdr d t c).set 7 (.inl (0, 40, .inl v)) = rp_Rdr d t (cs_deeds c v) := rfl
def rp_RoC (r : RowS) (c : CluS) : List va_E := [.inr (3, [.ref 1, .int (ro_size r)]),
  .inl (0, 40, .inl (ro_places r)),
  .inr (0, [.ref 3, .ref 4, .ref 5, .ref 6, .int (cl_children c), .int (cl_rule c), .int (cl_inn c), .int (cl_tin c), .int (cl_dc c)]),
  .inl (0, 6, .inl (cl_kinds c)),
  .inl (0, 6, .inl (cl_pence c)),
  .inl (0, 6, .inl (cl_liked c)),
  .inl (0, 40, .inl (cl_deeds c))]
theorem at_RoC_0 (r : RowS) (c : CluS) : (rp_RoC r c)[0]? = some (.inr (3, [.ref 1, .int (ro_size r)])) := rfl
theorem st_RoC_0_1 (r : RowS) (c : CluS) (v : Int32) : (rp_RoC r c).set 0 (.inr (3, [.ref 1, .int (ro_size r)].set 1 (.int v))) = rp_RoC (rs_size r v) c := rfl
theorem at_RoC_1 (r : RowS) (c : CluS) : (rp_RoC r c)[1]? = some (.inl (0, 40, .inl (ro_places r))) := rfl
theorem st_RoC_1 (r : RowS) (c : CluS) (v : Nat → Int32) : (rp_RoC r c).set 1 (.inl (0, 40, .inl v)) = rp_RoC (rs_places r v) c := rfl
theorem at_RoC_2 (r : RowS) (c : CluS) : (rp_RoC r c)[2]? = some (.inr (0, [.ref 3, .ref 4, .ref 5, .ref 6, .int (cl_children c), .int (cl_rule c), .int (cl_inn c), .int (cl_tin c), .int (cl_dc c)])) := rfl
theorem st_RoC_2_4 (r : RowS) (c : CluS) (v : Int32) : (rp_RoC r c).set 2 (.inr (0, [.ref 3, .ref 4, .ref 5, .ref 6, .int (cl_children c), .int (cl_rule c), .int (cl_inn c), .int (cl_tin c), .int (cl_dc c)].set 4 (.int v))) = rp_RoC r (cs_children c v) := rfl
theorem st_RoC_2_5 (r : RowS) (c : CluS) (v : Int32) : (rp_RoC r c).set 2 (.inr (0, [.ref 3, .ref 4, .ref 5, .ref 6, .int (cl_children c), .int (cl_rule c), .int (cl_inn c), .int (cl_tin c), .int (cl_dc c)].set 5 (.int v))) = rp_RoC r (cs_rule c v) := rfl
theorem st_RoC_2_6 (r : RowS) (c : CluS) (v : Int32) : (rp_RoC r c).set 2 (.inr (0, [.ref 3, .ref 4, .ref 5, .ref 6, .int (cl_children c), .int (cl_rule c), .int (cl_inn c), .int (cl_tin c), .int (cl_dc c)].set 6 (.int v))) = rp_RoC r (cs_inn c v) := rfl
theorem st_RoC_2_7 (r : RowS) (c : CluS) (v : Int32) : (rp_RoC r c).set 2 (.inr (0, [.ref 3, .ref 4, .ref 5, .ref 6, .int (cl_children c), .int (cl_rule c), .int (cl_inn c), .int (cl_tin c), .int (cl_dc c)].set 7 (.int v))) = rp_RoC r (cs_tin c v) := rfl
theorem st_RoC_2_8 (r : RowS) (c : CluS) (v : Int32) : (rp_RoC r c).set 2 (.inr (0, [.ref 3, .ref 4, .ref 5, .ref 6, .int (cl_children c), .int (cl_rule c), .int (cl_inn c), .int (cl_tin c), .int (cl_dc c)].set 8 (.int v))) = rp_RoC r (cs_dc c v) := rfl
theorem at_RoC_3 (r : RowS) (c : CluS) : (rp_RoC r c)[3]? = some (.inl (0, 6, .inl (cl_kinds c))) := rfl
theorem st_RoC_3 (r : RowS) (c : CluS) (v : Nat → Int32) : (rp_RoC r c).set 3 (.inl (0, 6, .inl v)) = rp_RoC r (cs_kinds c v) := rfl
theorem at_RoC_4 (r : RowS) (c : CluS) : (rp_RoC r c)[4]? = some (.inl (0, 6, .inl (cl_pence c))) := rfl
theorem st_RoC_4 (r : RowS) (c : CluS) (v : Nat → Int32) : (rp_RoC r c).set 4 (.inl (0, 6, .inl v)) = rp_RoC r (cs_pence c v) := rfl
theorem at_RoC_5 (r : RowS) (c : CluS) : (rp_RoC r c)[5]? = some (.inl (0, 6, .inl (cl_liked c))) := rfl
theorem st_RoC_5 (r : RowS) (c : CluS) (v : Nat → Int32) : (rp_RoC r c).set 5 (.inl (0, 6, .inl v)) = rp_RoC r (cs_liked c v) := rfl
theorem at_RoC_6 (r : RowS) (c : CluS) : (rp_RoC r c)[6]? = some (.inl (0, 40, .inl (cl_deeds c))) := rfl
theorem st_RoC_6 (r : RowS) (c : CluS) (v : Nat → Int32) : (rp_RoC r c).set 6 (.inl (0, 40, .inl v)) = rp_RoC r (cs_deeds c v) := rfl
def rp_Nj (s : NjS) : List va_E := [.inr (5, [.ref 1, .ref 14, .ref 23, .ref 28, .ref 33, .ref 49, .ref 50, .ref 52, .int (nj_lf s), .int (nj_an s), .long (nj_up s), .long (nj_lo s)]),
  .inl (3, 6, .inr (.inr (.inr (.inr ra_Row)))),
  .inr (3, [.ref 3, .int (ro_size ((nj_rows s) 0))]),
  .inl (0, 40, .inl (ro_places ((nj_rows s) 0))),
  .inr (3, [.ref 5, .int (ro_size ((nj_rows s) 1))]),
  .inl (0, 40, .inl (ro_places ((nj_rows s) 1))),
  .inr (3, [.ref 7, .int (ro_size ((nj_rows s) 2))]),
  .inl (0, 40, .inl (ro_places ((nj_rows s) 2))),
  .inr (3, [.ref 9, .int (ro_size ((nj_rows s) 3))]),
  .inl (0, 40, .inl (ro_places ((nj_rows s) 3))),
  .inr (3, [.ref 11, .int (ro_size ((nj_rows s) 4))]),
  .inl (0, 40, .inl (ro_places ((nj_rows s) 4))),
  .inr (3, [.ref 13, .int (ro_size ((nj_rows s) 5))]),
  .inl (0, 40, .inl (ro_places ((nj_rows s) 5))),
  .inl (4, 4, .inr (.inr (.inr (.inr ra_Text)))),
  .inr (4, [.ref 16, .int (te_size ((nj_texts s) 0))]),
  .inl (2, 60, .inl (te_bytes ((nj_texts s) 0))),
  .inr (4, [.ref 18, .int (te_size ((nj_texts s) 1))]),
  .inl (2, 60, .inl (te_bytes ((nj_texts s) 1))),
  .inr (4, [.ref 20, .int (te_size ((nj_texts s) 2))]),
  .inl (2, 60, .inl (te_bytes ((nj_texts s) 2))),
  .inr (4, [.ref 22, .int (te_size ((nj_texts s) 3))]),
  .inl (2, 60, .inl (te_bytes ((nj_texts s) 3))),
  .inr (0, [.ref 24, .ref 25, .ref 26, .ref 27, .int (cl_children (nj_club s)), .int (cl_rule (nj_club s)), .int (cl_inn (nj_club s)), .int (cl_tin (nj_club s)), .int (cl_dc (nj_club s))]),
  .inl (0, 6, .inl (cl_kinds (nj_club s))),
  .inl (0, 6, .inl (cl_pence (nj_club s))),
  .inl (0, 6, .inl (cl_liked (nj_club s))),
  .inl (0, 40, .inl (cl_deeds (nj_club s))),
  .inr (0, [.ref 29, .ref 30, .ref 31, .ref 32, .int (cl_children (nj_draft s)), .int (cl_rule (nj_draft s)), .int (cl_inn (nj_draft s)), .int (cl_tin (nj_draft s)), .int (cl_dc (nj_draft s))]),
  .inl (0, 6, .inl (cl_kinds (nj_draft s))),
  .inl (0, 6, .inl (cl_pence (nj_draft s))),
  .inl (0, 6, .inl (cl_liked (nj_draft s))),
  .inl (0, 40, .inl (cl_deeds (nj_draft s))),
  .inl (5, 3, .inr (.inr (.inr (.inr ra_Kept)))),
  .inr (0, [.ref 35, .ref 36, .ref 37, .ref 38, .int (cl_children ((nj_kept s) 0)), .int (cl_rule ((nj_kept s) 0)), .int (cl_inn ((nj_kept s) 0)), .int (cl_tin ((nj_kept s) 0)), .int (cl_dc ((nj_kept s) 0))]),
  .inl (0, 6, .inl (cl_kinds ((nj_kept s) 0))),
  .inl (0, 6, .inl (cl_pence ((nj_kept s) 0))),
  .inl (0, 6, .inl (cl_liked ((nj_kept s) 0))),
  .inl (0, 40, .inl (cl_deeds ((nj_kept s) 0))),
  .inr (0, [.ref 40, .ref 41, .ref 42, .ref 43, .int (cl_children ((nj_kept s) 1)), .int (cl_rule ((nj_kept s) 1)), .int (cl_inn ((nj_kept s) 1)), .int (cl_tin ((nj_kept s) 1)), .int (cl_dc ((nj_kept s) 1))]),
  .inl (0, 6, .inl (cl_kinds ((nj_kept s) 1))),
  .inl (0, 6, .inl (cl_pence ((nj_kept s) 1))),
  .inl (0, 6, .inl (cl_liked ((nj_kept s) 1))),
  .inl (0, 40, .inl (cl_deeds ((nj_kept s) 1))),
  .inr (0, [.ref 45, .ref 46, .ref 47, .ref 48, .int (cl_children ((nj_kept s) 2)), .int (cl_rule ((nj_kept s) 2)), .int (cl_inn ((nj_kept s) 2)), .int (cl_tin ((nj_kept s) 2)), .int (cl_dc ((nj_kept s) 2))]),
  .inl (0, 6, .inl (cl_kinds ((nj_kept s) 2))),
  .inl (0, 6, .inl (cl_pence ((nj_kept s) 2))),
  .inl (0, 6, .inl (cl_liked ((nj_kept s) 2))),
  .inl (0, 40, .inl (cl_deeds ((nj_kept s) 2))),
  .inr (2, [.int (rd_place (nj_rd s)), .int (rd_pairs (nj_rd s))]),
  .inr (1, [.ref 23, .ref 51]),
  .inl (0, 64, .inl (nj_os s)),
  .inl (0, 6, .inl (nj_fc s))]
theorem at_Nj_0 (s : NjS) : (rp_Nj s)[0]? = some (.inr (5, [.ref 1, .ref 14, .ref 23, .ref 28, .ref 33, .ref 49, .ref 50, .ref 52, .int (nj_lf s), .int (nj_an s), .long (nj_up s), .long (nj_lo s)])) := rfl
theorem st_Nj_0_8 (s : NjS) (v : Int32) : (rp_Nj s).set 0 (.inr (5, [.ref 1, .ref 14, .ref 23, .ref 28, .ref 33, .ref 49, .ref 50, .ref 52, .int (nj_lf s), .int (nj_an s), .long (nj_up s), .long (nj_lo s)].set 8 (.int v))) = rp_Nj (ns_lf s v) := rfl
theorem st_Nj_0_9 (s : NjS) (v : Int32) : (rp_Nj s).set 0 (.inr (5, [.ref 1, .ref 14, .ref 23, .ref 28, .ref 33, .ref 49, .ref 50, .ref 52, .int (nj_lf s), .int (nj_an s), .long (nj_up s), .long (nj_lo s)].set 9 (.int v))) = rp_Nj (ns_an s v) := rfl
theorem st_Nj_0_10 (s : NjS) (v : Int64) : (rp_Nj s).set 0 (.inr (5, [.ref 1, .ref 14, .ref 23, .ref 28, .ref 33, .ref 49, .ref 50, .ref 52, .int (nj_lf s), .int (nj_an s), .long (nj_up s), .long (nj_lo s)].set 10 (.long v))) = rp_Nj (ns_up s v) := rfl
theorem st_Nj_0_11 (s : NjS) (v : Int64) : (rp_Nj s).set 0 (.inr (5, [.ref 1, .ref 14, .ref 23, .ref 28, .ref 33, .ref 49, .ref 50, .ref 52, .int (nj_lf s), .int (nj_an s), .long (nj_up s), .long (nj_lo s)].set 11 (.long v))) = rp_Nj (ns_lo s v) := rfl
theorem at_Nj_1 (s : NjS) : (rp_Nj s)[1]? = some (.inl (3, 6, .inr (.inr (.inr (.inr ra_Row))))) := rfl
theorem at_Nj_14 (s : NjS) : (rp_Nj s)[14]? = some (.inl (4, 4, .inr (.inr (.inr (.inr ra_Text))))) := rfl
theorem at_Nj_23 (s : NjS) : (rp_Nj s)[23]? = some (.inr (0, [.ref 24, .ref 25, .ref 26, .ref 27, .int (cl_children (nj_club s)), .int (cl_rule (nj_club s)), .int (cl_inn (nj_club s)), .int (cl_tin (nj_club s)), .int (cl_dc (nj_club s))])) := rfl
theorem st_Nj_23_4 (s : NjS) (v : Int32) : (rp_Nj s).set 23 (.inr (0, [.ref 24, .ref 25, .ref 26, .ref 27, .int (cl_children (nj_club s)), .int (cl_rule (nj_club s)), .int (cl_inn (nj_club s)), .int (cl_tin (nj_club s)), .int (cl_dc (nj_club s))].set 4 (.int v))) = rp_Nj (ns_club s (cs_children (nj_club s) v)) := rfl
theorem st_Nj_23_5 (s : NjS) (v : Int32) : (rp_Nj s).set 23 (.inr (0, [.ref 24, .ref 25, .ref 26, .ref 27, .int (cl_children (nj_club s)), .int (cl_rule (nj_club s)), .int (cl_inn (nj_club s)), .int (cl_tin (nj_club s)), .int (cl_dc (nj_club s))].set 5 (.int v))) = rp_Nj (ns_club s (cs_rule (nj_club s) v)) := rfl
theorem st_Nj_23_6 (s : NjS) (v : Int32) : (rp_Nj s).set 23 (.inr (0, [.ref 24, .ref 25, .ref 26, .ref 27, .int (cl_children (nj_club s)), .int (cl_rule (nj_club s)), .int (cl_inn (nj_club s)), .int (cl_tin (nj_club s)), .int (cl_dc (nj_club s))].set 6 (.int v))) = rp_Nj (ns_club s (cs_inn (nj_club s) v)) := rfl
theorem st_Nj_23_7 (s : NjS) (v : Int32) : (rp_Nj s).set 23 (.inr (0, [.ref 24, .ref 25, .ref 26, .ref 27, .int (cl_children (nj_club s)), .int (cl_rule (nj_club s)), .int (cl_inn (nj_club s)), .int (cl_tin (nj_club s)), .int (cl_dc (nj_club s))].set 7 (.int v))) = rp_Nj (ns_club s (cs_tin (nj_club s) v)) := rfl
theorem st_Nj_23_8 (s : NjS) (v : Int32) : (rp_Nj s).set 23 (.inr (0, [.ref 24, .ref 25, .ref 26, .ref 27, .int (cl_children (nj_club s)), .int (cl_rule (nj_club s)), .int (cl_inn (nj_club s)), .int (cl_tin (nj_club s)), .int (cl_dc (nj_club s))].set 8 (.int v))) = rp_Nj (ns_club s (cs_dc (nj_club s) v)) := rfl
theorem at_Nj_24 (s : NjS) : (rp_Nj s)[24]? = some (.inl (0, 6, .inl (cl_kinds (nj_club s)))) := rfl
theorem st_Nj_24 (s : NjS) (v : Nat → Int32) : (rp_Nj s).set 24 (.inl (0, 6, .inl v)) = rp_Nj (ns_club s (cs_kinds (nj_club s) v)) := rfl
theorem at_Nj_25 (s : NjS) : (rp_Nj s)[25]? = some (.inl (0, 6, .inl (cl_pence (nj_club s)))) := rfl
theorem st_Nj_25 (s : NjS) (v : Nat → Int32) : (rp_Nj s).set 25 (.inl (0, 6, .inl v)) = rp_Nj (ns_club s (cs_pence (nj_club s) v)) := rfl
theorem at_Nj_26 (s : NjS) : (rp_Nj s)[26]? = some (.inl (0, 6, .inl (cl_liked (nj_club s)))) := rfl
theorem st_Nj_26 (s : NjS) (v : Nat → Int32) : (rp_Nj s).set 26 (.inl (0, 6, .inl v)) = rp_Nj (ns_club s (cs_liked (nj_club s) v)) := rfl
theorem at_Nj_27 (s : NjS) : (rp_Nj s)[27]? = some (.inl (0, 40, .inl (cl_deeds (nj_club s)))) := rfl
theorem st_Nj_27 (s : NjS) (v : Nat → Int32) : (rp_Nj s).set 27 (.inl (0, 40, .inl v)) = rp_Nj (ns_club s (cs_deeds (nj_club s) v)) := rfl
theorem at_Nj_28 (s : NjS) : (rp_Nj s)[28]? = some (.inr (0, [.ref 29, .ref 30, .ref 31, .ref 32, .int (cl_children (nj_draft s)), .int (cl_rule (nj_draft s)), .int (cl_inn (nj_draft s)), .int (cl_tin (nj_draft s)), .int (cl_dc (nj_draft s))])) := rfl
theorem st_Nj_28_4 (s : NjS) (v : Int32) : (rp_Nj s).set 28 (.inr (0, [.ref 29, .ref 30, .ref 31, .ref 32, .int (cl_children (nj_draft s)), .int (cl_rule (nj_draft s)), .int (cl_inn (nj_draft s)), .int (cl_tin (nj_draft s)), .int (cl_dc (nj_draft s))].set 4 (.int v))) = rp_Nj (ns_draft s (cs_children (nj_draft s) v)) := rfl
theorem st_Nj_28_5 (s : NjS) (v : Int32) : (rp_Nj s).set 28 (.inr (0, [.ref 29, .ref 30, .ref 31, .ref 32, .int (cl_children (nj_draft s)), .int (cl_rule (nj_draft s)), .int (cl_inn (nj_draft s)), .int (cl_tin (nj_draft s)), .int (cl_dc (nj_draft s))].set 5 (.int v))) = rp_Nj (ns_draft s (cs_rule (nj_draft s) v)) := rfl
theorem st_Nj_28_6 (s : NjS) (v : Int32) : (rp_Nj s).set 28 (.inr (0, [.ref 29, .ref 30, .ref 31, .ref 32, .int (cl_children (nj_draft s)), .int (cl_rule (nj_draft s)), .int (cl_inn (nj_draft s)), .int (cl_tin (nj_draft s)), .int (cl_dc (nj_draft s))].set 6 (.int v))) = rp_Nj (ns_draft s (cs_inn (nj_draft s) v)) := rfl
theorem st_Nj_28_7 (s : NjS) (v : Int32) : (rp_Nj s).set 28 (.inr (0, [.ref 29, .ref 30, .ref 31, .ref 32, .int (cl_children (nj_draft s)), .int (cl_rule (nj_draft s)), .int (cl_inn (nj_draft s)), .int (cl_tin (nj_draft s)), .int (cl_dc (nj_draft s))].set 7 (.int v))) = rp_Nj (ns_draft s (cs_tin (nj_draft s) v)) := rfl
theorem st_Nj_28_8 (s : NjS) (v : Int32) : (rp_Nj s).set 28 (.inr (0, [.ref 29, .ref 30, .ref 31, .ref 32, .int (cl_children (nj_draft s)), .int (cl_rule (nj_draft s)), .int (cl_inn (nj_draft s)), .int (cl_tin (nj_draft s)), .int (cl_dc (nj_draft s))].set 8 (.int v))) = rp_Nj (ns_draft s (cs_dc (nj_draft s) v)) := rfl
theorem at_Nj_29 (s : NjS) : (rp_Nj s)[29]? = some (.inl (0, 6, .inl (cl_kinds (nj_draft s)))) := rfl
theorem st_Nj_29 (s : NjS) (v : Nat → Int32) : (rp_Nj s).set 29 (.inl (0, 6, .inl v)) = rp_Nj (ns_draft s (cs_kinds (nj_draft s) v)) := rfl
theorem at_Nj_30 (s : NjS) : (rp_Nj s)[30]? = some (.inl (0, 6, .inl (cl_pence (nj_draft s)))) := rfl
theorem st_Nj_30 (s : NjS) (v : Nat → Int32) : (rp_Nj s).set 30 (.inl (0, 6, .inl v)) = rp_Nj (ns_draft s (cs_pence (nj_draft s) v)) := rfl
theorem at_Nj_31 (s : NjS) : (rp_Nj s)[31]? = some (.inl (0, 6, .inl (cl_liked (nj_draft s)))) := rfl
theorem st_Nj_31 (s : NjS) (v : Nat → Int32) : (rp_Nj s).set 31 (.inl (0, 6, .inl v)) = rp_Nj (ns_draft s (cs_liked (nj_draft s) v)) := rfl
theorem at_Nj_32 (s : NjS) : (rp_Nj s)[32]? = some (.inl (0, 40, .inl (cl_deeds (nj_draft s)))) := rfl
theorem st_Nj_32 (s : NjS) (v : Nat → Int32) : (rp_Nj s).set 32 (.inl (0, 40, .inl v)) = rp_Nj (ns_draft s (cs_deeds (nj_draft s) v)) := rfl
theorem at_Nj_33 (s : NjS) : (rp_Nj s)[33]? = some (.inl (5, 3, .inr (.inr (.inr (.inr ra_Kept))))) := rfl
theorem at_Nj_49 (s : NjS) : (rp_Nj s)[49]? = some (.inr (2, [.int (rd_place (nj_rd s)), .int (rd_pairs (nj_rd s))])) := rfl
theorem st_Nj_49_0 (s : NjS) (v : Int32) : (rp_Nj s).set 49 (.inr (2, [.int (rd_place (nj_rd s)), .int (rd_pairs (nj_rd s))].set 0 (.int v))) = rp_Nj (ns_rd s (ds_place (nj_rd s) v)) := rfl
theorem st_Nj_49_1 (s : NjS) (v : Int32) : (rp_Nj s).set 49 (.inr (2, [.int (rd_place (nj_rd s)), .int (rd_pairs (nj_rd s))].set 1 (.int v))) = rp_Nj (ns_rd s (ds_pairs (nj_rd s) v)) := rfl
theorem at_Nj_50 (s : NjS) : (rp_Nj s)[50]? = some (.inr (1, [.ref 23, .ref 51])) := rfl
theorem at_Nj_51 (s : NjS) : (rp_Nj s)[51]? = some (.inl (0, 64, .inl (nj_os s))) := rfl
theorem st_Nj_51 (s : NjS) (v : Nat → Int32) : (rp_Nj s).set 51 (.inl (0, 64, .inl v)) = rp_Nj (ns_os s v) := rfl
theorem at_Nj_52 (s : NjS) : (rp_Nj s)[52]? = some (.inl (0, 6, .inl (nj_fc s))) := rfl
theorem st_Nj_52 (s : NjS) (v : Nat → Int32) : (rp_Nj s).set 52 (.inl (0, 6, .inl v)) = rp_Nj (ns_fc s v) := rfl
def rp_Md (m : MdS) : List va_E := [.inr (6, [.ref 1, .int (md_children m), .ref 2, .ref 3, .ref 4, .ref 5, .ref 6, .int (md_asked m), .long (md_upper m), .long (md_lower m), .int (md_finding m), .ref 7, .int (md_from m), .int (md_place m), .int (md_stop m), .int (md_readRule m), .ref 8, .int (md_readMany m), .ref 9, .int (md_readPairs m), .ref 10, .ref 11, .ref 12]),
  .inl (0, 2304, .inl (md_row m)),
  .inl (0, 6, .inl (md_kinds m)),
  .inl (0, 6, .inl (md_sizes m)),
  .inl (0, 240, .inl (md_items m)),
  .inl (0, 4, .inl (md_lengths m)),
  .inl (0, 240, .inl (md_bytes m)),
  .inl (0, 6, .inl (md_findings m)),
  .inl (0, 12, .inl (md_readChildren m)),
  .inl (0, 6, .inl (md_readLikes m)),
  .inl (0, 64, .inl (md_outOf m)),
  .inl (0, 64, .inl (md_longer m)),
  .inl (1, 64, .inr (.inl (md_ways m)))]
theorem at_Md_0 (m : MdS) : (rp_Md m)[0]? = some (.inr (6, [.ref 1, .int (md_children m), .ref 2, .ref 3, .ref 4, .ref 5, .ref 6, .int (md_asked m), .long (md_upper m), .long (md_lower m), .int (md_finding m), .ref 7, .int (md_from m), .int (md_place m), .int (md_stop m), .int (md_readRule m), .ref 8, .int (md_readMany m), .ref 9, .int (md_readPairs m), .ref 10, .ref 11, .ref 12])) := rfl
theorem st_Md_0_1 (m : MdS) (v : Int32) : (rp_Md m).set 0 (.inr (6, [.ref 1, .int (md_children m), .ref 2, .ref 3, .ref 4, .ref 5, .ref 6, .int (md_asked m), .long (md_upper m), .long (md_lower m), .int (md_finding m), .ref 7, .int (md_from m), .int (md_place m), .int (md_stop m), .int (md_readRule m), .ref 8, .int (md_readMany m), .ref 9, .int (md_readPairs m), .ref 10, .ref 11, .ref 12].set 1 (.int v))) = rp_Md (ms_children m v) := rfl
theorem st_Md_0_7 (m : MdS) (v : Int32) : (rp_Md m).set 0 (.inr (6, [.ref 1, .int (md_children m), .ref 2, .ref 3, .ref 4, .ref 5, .ref 6, .int (md_asked m), .long (md_upper m), .long (md_lower m), .int (md_finding m), .ref 7, .int (md_from m), .int (md_place m), .int (md_stop m), .int (md_readRule m), .ref 8, .int (md_readMany m), .ref 9, .int (md_readPairs m), .ref 10, .ref 11, .ref 12].set 7 (.int v))) = rp_Md (ms_asked m v) := rfl
theorem st_Md_0_8 (m : MdS) (v : Int64) : (rp_Md m).set 0 (.inr (6, [.ref 1, .int (md_children m), .ref 2, .ref 3, .ref 4, .ref 5, .ref 6, .int (md_asked m), .long (md_upper m), .long (md_lower m), .int (md_finding m), .ref 7, .int (md_from m), .int (md_place m), .int (md_stop m), .int (md_readRule m), .ref 8, .int (md_readMany m), .ref 9, .int (md_readPairs m), .ref 10, .ref 11, .ref 12].set 8 (.long v))) = rp_Md (ms_upper m v) := rfl
theorem st_Md_0_9 (m : MdS) (v : Int64) : (rp_Md m).set 0 (.inr (6, [.ref 1, .int (md_children m), .ref 2, .ref 3, .ref 4, .ref 5, .ref 6, .int (md_asked m), .long (md_upper m), .long (md_lower m), .int (md_finding m), .ref 7, .int (md_from m), .int (md_place m), .int (md_stop m), .int (md_readRule m), .ref 8, .int (md_readMany m), .ref 9, .int (md_readPairs m), .ref 10, .ref 11, .ref 12].set 9 (.long v))) = rp_Md (ms_lower m v) := rfl
theorem st_Md_0_10 (m : MdS) (v : Int32) : (rp_Md m).set 0 (.inr (6, [.ref 1, .int (md_children m), .ref 2, .ref 3, .ref 4, .ref 5, .ref 6, .int (md_asked m), .long (md_upper m), .long (md_lower m), .int (md_finding m), .ref 7, .int (md_from m), .int (md_place m), .int (md_stop m), .int (md_readRule m), .ref 8, .int (md_readMany m), .ref 9, .int (md_readPairs m), .ref 10, .ref 11, .ref 12].set 10 (.int v))) = rp_Md (ms_finding m v) := rfl
theorem st_Md_0_12 (m : MdS) (v : Int32) : (rp_Md m).set 0 (.inr (6, [.ref 1, .int (md_children m), .ref 2, .ref 3, .ref 4, .ref 5, .ref 6, .int (md_asked m), .long (md_upper m), .long (md_lower m), .int (md_finding m), .ref 7, .int (md_from m), .int (md_place m), .int (md_stop m), .int (md_readRule m), .ref 8, .int (md_readMany m), .ref 9, .int (md_readPairs m), .ref 10, .ref 11, .ref 12].set 12 (.int v))) = rp_Md (ms_from m v) := rfl
theorem st_Md_0_13 (m : MdS) (v : Int32) : (rp_Md m).set 0 (.inr (6, [.ref 1, .int (md_children m), .ref 2, .ref 3, .ref 4, .ref 5, .ref 6, .int (md_asked m), .long (md_upper m), .long (md_lower m), .int (md_finding m), .ref 7, .int (md_from m), .int (md_place m), .int (md_stop m), .int (md_readRule m), .ref 8, .int (md_readMany m), .ref 9, .int (md_readPairs m), .ref 10, .ref 11, .ref 12].set 13 (.int v))) = rp_Md (ms_place m v) := rfl
theorem st_Md_0_14 (m : MdS) (v : Int32) : (rp_Md m).set 0 (.inr (6, [.ref 1, .int (md_children m), .ref 2, .ref 3, .ref 4, .ref 5, .ref 6, .int (md_asked m), .long (md_upper m), .long (md_lower m), .int (md_finding m), .ref 7, .int (md_from m), .int (md_place m), .int (md_stop m), .int (md_readRule m), .ref 8, .int (md_readMany m), .ref 9, .int (md_readPairs m), .ref 10, .ref 11, .ref 12].set 14 (.int v))) = rp_Md (ms_stop m v) := rfl
theorem st_Md_0_15 (m : MdS) (v : Int32) : (rp_Md m).set 0 (.inr (6, [.ref 1, .int (md_children m), .ref 2, .ref 3, .ref 4, .ref 5, .ref 6, .int (md_asked m), .long (md_upper m), .long (md_lower m), .int (md_finding m), .ref 7, .int (md_from m), .int (md_place m), .int (md_stop m), .int (md_readRule m), .ref 8, .int (md_readMany m), .ref 9, .int (md_readPairs m), .ref 10, .ref 11, .ref 12].set 15 (.int v))) = rp_Md (ms_readRule m v) := rfl
theorem st_Md_0_17 (m : MdS) (v : Int32) : (rp_Md m).set 0 (.inr (6, [.ref 1, .int (md_children m), .ref 2, .ref 3, .ref 4, .ref 5, .ref 6, .int (md_asked m), .long (md_upper m), .long (md_lower m), .int (md_finding m), .ref 7, .int (md_from m), .int (md_place m), .int (md_stop m), .int (md_readRule m), .ref 8, .int (md_readMany m), .ref 9, .int (md_readPairs m), .ref 10, .ref 11, .ref 12].set 17 (.int v))) = rp_Md (ms_readMany m v) := rfl
theorem st_Md_0_19 (m : MdS) (v : Int32) : (rp_Md m).set 0 (.inr (6, [.ref 1, .int (md_children m), .ref 2, .ref 3, .ref 4, .ref 5, .ref 6, .int (md_asked m), .long (md_upper m), .long (md_lower m), .int (md_finding m), .ref 7, .int (md_from m), .int (md_place m), .int (md_stop m), .int (md_readRule m), .ref 8, .int (md_readMany m), .ref 9, .int (md_readPairs m), .ref 10, .ref 11, .ref 12].set 19 (.int v))) = rp_Md (ms_readPairs m v) := rfl
theorem at_Md_1 (m : MdS) : (rp_Md m)[1]? = some (.inl (0, 2304, .inl (md_row m))) := rfl
theorem st_Md_1 (m : MdS) (v : Nat → Int32) : (rp_Md m).set 1 (.inl (0, 2304, .inl v)) = rp_Md (ms_row m v) := rfl
theorem at_Md_2 (m : MdS) : (rp_Md m)[2]? = some (.inl (0, 6, .inl (md_kinds m))) := rfl
theorem st_Md_2 (m : MdS) (v : Nat → Int32) : (rp_Md m).set 2 (.inl (0, 6, .inl v)) = rp_Md (ms_kinds m v) := rfl
theorem at_Md_3 (m : MdS) : (rp_Md m)[3]? = some (.inl (0, 6, .inl (md_sizes m))) := rfl
theorem st_Md_3 (m : MdS) (v : Nat → Int32) : (rp_Md m).set 3 (.inl (0, 6, .inl v)) = rp_Md (ms_sizes m v) := rfl
theorem at_Md_4 (m : MdS) : (rp_Md m)[4]? = some (.inl (0, 240, .inl (md_items m))) := rfl
theorem st_Md_4 (m : MdS) (v : Nat → Int32) : (rp_Md m).set 4 (.inl (0, 240, .inl v)) = rp_Md (ms_items m v) := rfl
theorem at_Md_5 (m : MdS) : (rp_Md m)[5]? = some (.inl (0, 4, .inl (md_lengths m))) := rfl
theorem st_Md_5 (m : MdS) (v : Nat → Int32) : (rp_Md m).set 5 (.inl (0, 4, .inl v)) = rp_Md (ms_lengths m v) := rfl
theorem at_Md_6 (m : MdS) : (rp_Md m)[6]? = some (.inl (0, 240, .inl (md_bytes m))) := rfl
theorem st_Md_6 (m : MdS) (v : Nat → Int32) : (rp_Md m).set 6 (.inl (0, 240, .inl v)) = rp_Md (ms_bytes m v) := rfl
theorem at_Md_7 (m : MdS) : (rp_Md m)[7]? = some (.inl (0, 6, .inl (md_findings m))) := rfl
theorem st_Md_7 (m : MdS) (v : Nat → Int32) : (rp_Md m).set 7 (.inl (0, 6, .inl v)) = rp_Md (ms_findings m v) := rfl
theorem at_Md_8 (m : MdS) : (rp_Md m)[8]? = some (.inl (0, 12, .inl (md_readChildren m))) := rfl
theorem st_Md_8 (m : MdS) (v : Nat → Int32) : (rp_Md m).set 8 (.inl (0, 12, .inl v)) = rp_Md (ms_readChildren m v) := rfl
theorem at_Md_9 (m : MdS) : (rp_Md m)[9]? = some (.inl (0, 6, .inl (md_readLikes m))) := rfl
theorem st_Md_9 (m : MdS) (v : Nat → Int32) : (rp_Md m).set 9 (.inl (0, 6, .inl v)) = rp_Md (ms_readLikes m v) := rfl
theorem at_Md_10 (m : MdS) : (rp_Md m)[10]? = some (.inl (0, 64, .inl (md_outOf m))) := rfl
theorem st_Md_10 (m : MdS) (v : Nat → Int32) : (rp_Md m).set 10 (.inl (0, 64, .inl v)) = rp_Md (ms_outOf m v) := rfl
theorem at_Md_11 (m : MdS) : (rp_Md m)[11]? = some (.inl (0, 64, .inl (md_longer m))) := rfl
theorem st_Md_11 (m : MdS) (v : Nat → Int32) : (rp_Md m).set 11 (.inl (0, 64, .inl v)) = rp_Md (ms_longer m v) := rfl
theorem at_Md_12 (m : MdS) : (rp_Md m)[12]? = some (.inl (1, 64, .inr (.inl (md_ways m)))) := rfl
theorem st_Md_12 (m : MdS) (v : Nat → Int64) : (rp_Md m).set 12 (.inl (1, 64, .inr (.inl v))) = rp_Md (ms_ways m v) := rfl
theorem at_Nj_Row_0 (s : NjS) (i : Nat) (hi : i < 6) : (rp_Nj s)[(2 + 2 * i)]? = some (.inr (3, [.ref (3 + 2 * i), .int (ro_size ((nj_rows s) i))])) :=
  match i, hi with
  | 0, _ => rfl
  | 1, _ => rfl
  | 2, _ => rfl
  | 3, _ => rfl
  | 4, _ => rfl
  | 5, _ => rfl
theorem st_Nj_Row_0_1 (s : NjS) (i : Nat) (hi : i < 6) (v : Int32) : (rp_Nj s).set (2 + 2 * i) (.inr (3, [.ref (3 + 2 * i), .int (ro_size ((nj_rows s) i))].set 1 (.int v))) = rp_Nj (ns_rows s (va_up (nj_rows s) i (rs_size ((nj_rows s) i) v))) :=
  match i, hi with
  | 0, _ => rfl
  | 1, _ => rfl
  | 2, _ => rfl
  | 3, _ => rfl
  | 4, _ => rfl
  | 5, _ => rfl
theorem at_Nj_Row_1 (s : NjS) (i : Nat) (hi : i < 6) : (rp_Nj s)[(3 + 2 * i)]? = some (.inl (0, 40, .inl (ro_places ((nj_rows s) i)))) :=
  match i, hi with
  | 0, _ => rfl
  | 1, _ => rfl
  | 2, _ => rfl
  | 3, _ => rfl
  | 4, _ => rfl
  | 5, _ => rfl
theorem st_Nj_Row_1 (s : NjS) (i : Nat) (hi : i < 6) (v : Nat → Int32) : (rp_Nj s).set (3 + 2 * i) (.inl (0, 40, .inl v)) = rp_Nj (ns_rows s (va_up (nj_rows s) i (rs_places ((nj_rows s) i) v))) :=
  match i, hi with
  | 0, _ => rfl
  | 1, _ => rfl
  | 2, _ => rfl
  | 3, _ => rfl
  | 4, _ => rfl
  | 5, _ => rfl
theorem at_Nj_Text_0 (s : NjS) (i : Nat) (hi : i < 4) : (rp_Nj s)[(15 + 2 * i)]? = some (.inr (4, [.ref (16 + 2 * i), .int (te_size ((nj_texts s) i))])) :=
  match i, hi with
  | 0, _ => rfl
  | 1, _ => rfl
  | 2, _ => rfl
  | 3, _ => rfl
theorem st_Nj_Text_0_1 (s : NjS) (i : Nat) (hi : i < 4) (v : Int32) : (rp_Nj s).set (15 + 2 * i) (.inr (4, [.ref (16 + 2 * i), .int (te_size ((nj_texts s) i))].set 1 (.int v))) = rp_Nj (ns_texts s (va_up (nj_texts s) i (ts_size ((nj_texts s) i) v))) :=
  match i, hi with
  | 0, _ => rfl
  | 1, _ => rfl
  | 2, _ => rfl
  | 3, _ => rfl
theorem at_Nj_Text_1 (s : NjS) (i : Nat) (hi : i < 4) : (rp_Nj s)[(16 + 2 * i)]? = some (.inl (2, 60, .inl (te_bytes ((nj_texts s) i)))) :=
  match i, hi with
  | 0, _ => rfl
  | 1, _ => rfl
  | 2, _ => rfl
  | 3, _ => rfl
theorem st_Nj_Text_1 (s : NjS) (i : Nat) (hi : i < 4) (v : Nat → Int32) : (rp_Nj s).set (16 + 2 * i) (.inl (2, 60, .inl v)) = rp_Nj (ns_texts s (va_up (nj_texts s) i (ts_bytes ((nj_texts s) i) v))) :=
  match i, hi with
  | 0, _ => rfl
  | 1, _ => rfl
  | 2, _ => rfl
  | 3, _ => rfl
theorem at_Nj_Kept_0 (s : NjS) (i : Nat) (hi : i < 3) : (rp_Nj s)[(34 + 5 * i)]? = some (.inr (0, [.ref (35 + 5 * i), .ref (36 + 5 * i), .ref (37 + 5 * i), .ref (38 + 5 * i), .int (cl_children ((nj_kept s) i)), .int (cl_rule ((nj_kept s) i)), .int (cl_inn ((nj_kept s) i)), .int (cl_tin ((nj_kept s) i)), .int (cl_dc ((nj_kept s) i))])) :=
  match i, hi with
  | 0, _ => rfl
  | 1, _ => rfl
  | 2, _ => rfl
theorem st_Nj_Kept_0_4 (s : NjS) (i : Nat) (hi : i < 3) (v : Int32) : (rp_Nj s).set (34 + 5 * i) (.inr (0, [.ref (35 + 5 * i), .ref (36 + 5 * i), .ref (37 + 5 * i), .ref (38 + 5 * i), .int (cl_children ((nj_kept s) i)), .int (cl_rule ((nj_kept s) i)), .int (cl_inn ((nj_kept s) i)), .int (cl_tin ((nj_kept s) i)), .int (cl_dc ((nj_kept s) i))].set 4 (.int v))) = rp_Nj (ns_kept s (va_up (nj_kept s) i (cs_children ((nj_kept s) i) v))) :=
  match i, hi with
  | 0, _ => rfl
  | 1, _ => rfl
  | 2, _ => rfl
theorem st_Nj_Kept_0_5 (s : NjS) (i : Nat) (hi : i < 3) (v : Int32) : (rp_Nj s).set (34 + 5 * i) (.inr (0, [.ref (35 + 5 * i), .ref (36 + 5 * i), .ref (37 + 5 * i), .ref (38 + 5 * i), .int (cl_children ((nj_kept s) i)), .int (cl_rule ((nj_kept s) i)), .int (cl_inn ((nj_kept s) i)), .int (cl_tin ((nj_kept s) i)), .int (cl_dc ((nj_kept s) i))].set 5 (.int v))) = rp_Nj (ns_kept s (va_up (nj_kept s) i (cs_rule ((nj_kept s) i) v))) :=
  match i, hi with
  | 0, _ => rfl
  | 1, _ => rfl
  | 2, _ => rfl
theorem st_Nj_Kept_0_6 (s : NjS) (i : Nat) (hi : i < 3) (v : Int32) : (rp_Nj s).set (34 + 5 * i) (.inr (0, [.ref (35 + 5 * i), .ref (36 + 5 * i), .ref (37 + 5 * i), .ref (38 + 5 * i), .int (cl_children ((nj_kept s) i)), .int (cl_rule ((nj_kept s) i)), .int (cl_inn ((nj_kept s) i)), .int (cl_tin ((nj_kept s) i)), .int (cl_dc ((nj_kept s) i))].set 6 (.int v))) = rp_Nj (ns_kept s (va_up (nj_kept s) i (cs_inn ((nj_kept s) i) v))) :=
  match i, hi with
  | 0, _ => rfl
  | 1, _ => rfl
  | 2, _ => rfl
theorem st_Nj_Kept_0_7 (s : NjS) (i : Nat) (hi : i < 3) (v : Int32) : (rp_Nj s).set (34 + 5 * i) (.inr (0, [.ref (35 + 5 * i), .ref (36 + 5 * i), .ref (37 + 5 * i), .ref (38 + 5 * i), .int (cl_children ((nj_kept s) i)), .int (cl_rule ((nj_kept s) i)), .int (cl_inn ((nj_kept s) i)), .int (cl_tin ((nj_kept s) i)), .int (cl_dc ((nj_kept s) i))].set 7 (.int v))) = rp_Nj (ns_kept s (va_up (nj_kept s) i (cs_tin ((nj_kept s) i) v))) :=
  match i, hi with
  | 0, _ => rfl
  | 1, _ => rfl
  | 2, _ => rfl
theorem st_Nj_Kept_0_8 (s : NjS) (i : Nat) (hi : i < 3) (v : Int32) : (rp_Nj s).set (34 + 5 * i) (.inr (0, [.ref (35 + 5 * i), .ref (36 + 5 * i), .ref (37 + 5 * i), .ref (38 + 5 * i), .int (cl_children ((nj_kept s) i)), .int (cl_rule ((nj_kept s) i)), .int (cl_inn ((nj_kept s) i)), .int (cl_tin ((nj_kept s) i)), .int (cl_dc ((nj_kept s) i))].set 8 (.int v))) = rp_Nj (ns_kept s (va_up (nj_kept s) i (cs_dc ((nj_kept s) i) v))) :=
  match i, hi with
  | 0, _ => rfl
  | 1, _ => rfl
  | 2, _ => rfl
theorem at_Nj_Kept_1 (s : NjS) (i : Nat) (hi : i < 3) : (rp_Nj s)[(35 + 5 * i)]? = some (.inl (0, 6, .inl (cl_kinds ((nj_kept s) i)))) :=
  match i, hi with
  | 0, _ => rfl
  | 1, _ => rfl
  | 2, _ => rfl
theorem st_Nj_Kept_1 (s : NjS) (i : Nat) (hi : i < 3) (v : Nat → Int32) : (rp_Nj s).set (35 + 5 * i) (.inl (0, 6, .inl v)) = rp_Nj (ns_kept s (va_up (nj_kept s) i (cs_kinds ((nj_kept s) i) v))) :=
  match i, hi with
  | 0, _ => rfl
  | 1, _ => rfl
  | 2, _ => rfl
theorem at_Nj_Kept_2 (s : NjS) (i : Nat) (hi : i < 3) : (rp_Nj s)[(36 + 5 * i)]? = some (.inl (0, 6, .inl (cl_pence ((nj_kept s) i)))) :=
  match i, hi with
  | 0, _ => rfl
  | 1, _ => rfl
  | 2, _ => rfl
theorem st_Nj_Kept_2 (s : NjS) (i : Nat) (hi : i < 3) (v : Nat → Int32) : (rp_Nj s).set (36 + 5 * i) (.inl (0, 6, .inl v)) = rp_Nj (ns_kept s (va_up (nj_kept s) i (cs_pence ((nj_kept s) i) v))) :=
  match i, hi with
  | 0, _ => rfl
  | 1, _ => rfl
  | 2, _ => rfl
theorem at_Nj_Kept_3 (s : NjS) (i : Nat) (hi : i < 3) : (rp_Nj s)[(37 + 5 * i)]? = some (.inl (0, 6, .inl (cl_liked ((nj_kept s) i)))) :=
  match i, hi with
  | 0, _ => rfl
  | 1, _ => rfl
  | 2, _ => rfl
theorem st_Nj_Kept_3 (s : NjS) (i : Nat) (hi : i < 3) (v : Nat → Int32) : (rp_Nj s).set (37 + 5 * i) (.inl (0, 6, .inl v)) = rp_Nj (ns_kept s (va_up (nj_kept s) i (cs_liked ((nj_kept s) i) v))) :=
  match i, hi with
  | 0, _ => rfl
  | 1, _ => rfl
  | 2, _ => rfl
theorem at_Nj_Kept_4 (s : NjS) (i : Nat) (hi : i < 3) : (rp_Nj s)[(38 + 5 * i)]? = some (.inl (0, 40, .inl (cl_deeds ((nj_kept s) i)))) :=
  match i, hi with
  | 0, _ => rfl
  | 1, _ => rfl
  | 2, _ => rfl
theorem st_Nj_Kept_4 (s : NjS) (i : Nat) (hi : i < 3) (v : Nat → Int32) : (rp_Nj s).set (38 + 5 * i) (.inl (0, 40, .inl v)) = rp_Nj (ns_kept s (va_up (nj_kept s) i (cs_deeds ((nj_kept s) i) v))) :=
  match i, hi with
  | 0, _ => rfl
  | 1, _ => rfl
  | 2, _ => rfl
theorem em_E (hp : List va_E) : nj_Em hp [] [] := ⟨rfl, rfl, rfl⟩
theorem em_Ord_Club (o : (Nat → Int32)) (c : CluS) : nj_Em (rp_Ord o c) [2, 3, 4, 5, 6] (rp_Club c) := ⟨rfl, rfl, rfl⟩
theorem pa_Ord_Club (o : (Nat → Int32)) (c : CluS) (c' : CluS) : nj_patch (rp_Ord o c) [2, 3, 4, 5, 6] ((rp_Club c').map (nj_re [2, 3, 4, 5, 6])) = rp_Ord o c' := rfl
theorem em_OrdR_Club (o : (Nat → Int32)) (c : CluS) (r : RowS) : nj_Em (rp_OrdR o c r) [2, 3, 4, 5, 6] (rp_Club c) := ⟨rfl, rfl, rfl⟩
theorem pa_OrdR_Club (o : (Nat → Int32)) (c : CluS) (r : RowS) (c' : CluS) : nj_patch (rp_OrdR o c r) [2, 3, 4, 5, 6] ((rp_Club c').map (nj_re [2, 3, 4, 5, 6])) = rp_OrdR o c' r := rfl
theorem em_OrdR_Ord (o : (Nat → Int32)) (c : CluS) (r : RowS) : nj_Em (rp_OrdR o c r) [0, 1, 2, 3, 4, 5, 6] (rp_Ord o c) := ⟨rfl, rfl, rfl⟩
theorem pa_OrdR_Ord (o : (Nat → Int32)) (c : CluS) (r : RowS) (o' : (Nat → Int32)) (c' : CluS) : nj_patch (rp_OrdR o c r) [0, 1, 2, 3, 4, 5, 6] ((rp_Ord o' c').map (nj_re [0, 1, 2, 3, 4, 5, 6])) = rp_OrdR o' c' r := rfl
theorem em_OrdR_Row (o : (Nat → Int32)) (c : CluS) (r : RowS) : nj_Em (rp_OrdR o c r) [7, 8] (rp_Row r) := ⟨rfl, rfl, rfl⟩
theorem pa_OrdR_Row (o : (Nat → Int32)) (c : CluS) (r : RowS) (r' : RowS) : nj_patch (rp_OrdR o c r) [7, 8] ((rp_Row r').map (nj_re [7, 8])) = rp_OrdR o c r' := rfl
theorem em_Rdr_Text (d : RdS) (t : TexS) (c : CluS) : nj_Em (rp_Rdr d t c) [1, 2] (rp_Tex t) := ⟨rfl, rfl, rfl⟩
theorem pa_Rdr_Text (d : RdS) (t : TexS) (c : CluS) (t' : TexS) : nj_patch (rp_Rdr d t c) [1, 2] ((rp_Tex t').map (nj_re [1, 2])) = rp_Rdr d t' c := rfl
theorem em_Rdr_Club (d : RdS) (t : TexS) (c : CluS) : nj_Em (rp_Rdr d t c) [3, 4, 5, 6, 7] (rp_Club c) := ⟨rfl, rfl, rfl⟩
theorem pa_Rdr_Club (d : RdS) (t : TexS) (c : CluS) (c' : CluS) : nj_patch (rp_Rdr d t c) [3, 4, 5, 6, 7] ((rp_Club c').map (nj_re [3, 4, 5, 6, 7])) = rp_Rdr d t c' := rfl
theorem em_RoC_Row (r : RowS) (c : CluS) : nj_Em (rp_RoC r c) [0, 1] (rp_Row r) := ⟨rfl, rfl, rfl⟩
theorem pa_RoC_Row (r : RowS) (c : CluS) (r' : RowS) : nj_patch (rp_RoC r c) [0, 1] ((rp_Row r').map (nj_re [0, 1])) = rp_RoC r' c := rfl
theorem em_RoC_Club (r : RowS) (c : CluS) : nj_Em (rp_RoC r c) [2, 3, 4, 5, 6] (rp_Club c) := ⟨rfl, rfl, rfl⟩
theorem pa_RoC_Club (r : RowS) (c : CluS) (c' : CluS) : nj_patch (rp_RoC r c) [2, 3, 4, 5, 6] ((rp_Club c').map (nj_re [2, 3, 4, 5, 6])) = rp_RoC r c' := rfl
theorem em_Nj_Row (s : NjS) (i : Nat) (hi : i < 6) : nj_Em (rp_Nj s) [(2 + 2 * i), (3 + 2 * i)] (rp_Row ((nj_rows s) i)) :=
  match i, hi with
  | 0, _ => ⟨rfl, rfl, rfl⟩
  | 1, _ => ⟨rfl, rfl, rfl⟩
  | 2, _ => ⟨rfl, rfl, rfl⟩
  | 3, _ => ⟨rfl, rfl, rfl⟩
  | 4, _ => ⟨rfl, rfl, rfl⟩
  | 5, _ => ⟨rfl, rfl, rfl⟩
theorem pa_Nj_Row (s : NjS) (i : Nat) (hi : i < 6) (r' : RowS) : nj_patch (rp_Nj s) [(2 + 2 * i), (3 + 2 * i)] ((rp_Row r').map (nj_re [(2 + 2 * i), (3 + 2 * i)])) = rp_Nj (ns_rows s (va_up (nj_rows s) i r')) :=
  match i, hi with
  | 0, _ => rfl
  | 1, _ => rfl
  | 2, _ => rfl
  | 3, _ => rfl
  | 4, _ => rfl
  | 5, _ => rfl
theorem em_Nj_Text (s : NjS) (i : Nat) (hi : i < 4) : nj_Em (rp_Nj s) [(15 + 2 * i), (16 + 2 * i)] (rp_Tex ((nj_texts s) i)) :=
  match i, hi with
  | 0, _ => ⟨rfl, rfl, rfl⟩
  | 1, _ => ⟨rfl, rfl, rfl⟩
  | 2, _ => ⟨rfl, rfl, rfl⟩
  | 3, _ => ⟨rfl, rfl, rfl⟩
theorem pa_Nj_Text (s : NjS) (i : Nat) (hi : i < 4) (t' : TexS) : nj_patch (rp_Nj s) [(15 + 2 * i), (16 + 2 * i)] ((rp_Tex t').map (nj_re [(15 + 2 * i), (16 + 2 * i)])) = rp_Nj (ns_texts s (va_up (nj_texts s) i t')) :=
  match i, hi with
  | 0, _ => rfl
  | 1, _ => rfl
  | 2, _ => rfl
  | 3, _ => rfl
theorem em_Nj_Club (s : NjS) : nj_Em (rp_Nj s) [23, 24, 25, 26, 27] (rp_Club (nj_club s)) := ⟨rfl, rfl, rfl⟩
theorem pa_Nj_Club (s : NjS) (c' : CluS) : nj_patch (rp_Nj s) [23, 24, 25, 26, 27] ((rp_Club c').map (nj_re [23, 24, 25, 26, 27])) = rp_Nj (ns_club s c') := rfl
theorem em_Nj_Kept (s : NjS) (i : Nat) (hi : i < 3) : nj_Em (rp_Nj s) [(34 + 5 * i), (35 + 5 * i), (36 + 5 * i), (37 + 5 * i), (38 + 5 * i)] (rp_Club ((nj_kept s) i)) :=
  match i, hi with
  | 0, _ => ⟨rfl, rfl, rfl⟩
  | 1, _ => ⟨rfl, rfl, rfl⟩
  | 2, _ => ⟨rfl, rfl, rfl⟩
theorem pa_Nj_Kept (s : NjS) (i : Nat) (hi : i < 3) (c' : CluS) : nj_patch (rp_Nj s) [(34 + 5 * i), (35 + 5 * i), (36 + 5 * i), (37 + 5 * i), (38 + 5 * i)] ((rp_Club c').map (nj_re [(34 + 5 * i), (35 + 5 * i), (36 + 5 * i), (37 + 5 * i), (38 + 5 * i)])) = rp_Nj (ns_kept s (va_up (nj_kept s) i c')) :=
  match i, hi with
  | 0, _ => rfl
  | 1, _ => rfl
  | 2, _ => rfl
theorem em_Nj_ClubDraft (s : NjS) : nj_Em (rp_Nj s) [23, 24, 25, 26, 27, 28, 29, 30, 31, 32] (rp_Club2 (nj_club s) (nj_draft s)) := ⟨rfl, rfl, rfl⟩
theorem pa_Nj_ClubDraft (s : NjS) (c' : CluS) : nj_patch (rp_Nj s) [23, 24, 25, 26, 27, 28, 29, 30, 31, 32] ((rp_Club2 c' (nj_draft s)).map (nj_re [23, 24, 25, 26, 27, 28, 29, 30, 31, 32])) = rp_Nj (ns_club s c') := rfl
theorem em_Nj_ClubKept (s : NjS) (i : Nat) (hi : i < 3) : nj_Em (rp_Nj s) [23, 24, 25, 26, 27, (34 + 5 * i), (35 + 5 * i), (36 + 5 * i), (37 + 5 * i), (38 + 5 * i)] (rp_Club2 (nj_club s) ((nj_kept s) i)) :=
  match i, hi with
  | 0, _ => ⟨rfl, rfl, rfl⟩
  | 1, _ => ⟨rfl, rfl, rfl⟩
  | 2, _ => ⟨rfl, rfl, rfl⟩
theorem pa_Nj_ClubKept (s : NjS) (i : Nat) (hi : i < 3) (c' : CluS) : nj_patch (rp_Nj s) [23, 24, 25, 26, 27, (34 + 5 * i), (35 + 5 * i), (36 + 5 * i), (37 + 5 * i), (38 + 5 * i)] ((rp_Club2 c' ((nj_kept s) i)).map (nj_re [23, 24, 25, 26, 27, (34 + 5 * i), (35 + 5 * i), (36 + 5 * i), (37 + 5 * i), (38 + 5 * i)])) = rp_Nj (ns_club s c') :=
  match i, hi with
  | 0, _ => rfl
  | 1, _ => rfl
  | 2, _ => rfl
theorem em_Nj_KeptClub (s : NjS) (i : Nat) (hi : i < 3) : nj_Em (rp_Nj s) [(34 + 5 * i), (35 + 5 * i), (36 + 5 * i), (37 + 5 * i), (38 + 5 * i), 23, 24, 25, 26, 27] (rp_Club2 ((nj_kept s) i) (nj_club s)) :=
  match i, hi with
  | 0, _ => ⟨rfl, rfl, rfl⟩
  | 1, _ => ⟨rfl, rfl, rfl⟩
  | 2, _ => ⟨rfl, rfl, rfl⟩
theorem pa_Nj_KeptClub (s : NjS) (i : Nat) (hi : i < 3) (c' : CluS) : nj_patch (rp_Nj s) [(34 + 5 * i), (35 + 5 * i), (36 + 5 * i), (37 + 5 * i), (38 + 5 * i), 23, 24, 25, 26, 27] ((rp_Club2 c' (nj_club s)).map (nj_re [(34 + 5 * i), (35 + 5 * i), (36 + 5 * i), (37 + 5 * i), (38 + 5 * i), 23, 24, 25, 26, 27])) = rp_Nj (ns_kept s (va_up (nj_kept s) i c')) :=
  match i, hi with
  | 0, _ => rfl
  | 1, _ => rfl
  | 2, _ => rfl
theorem em_Nj_Ord (s : NjS) : nj_Em (rp_Nj s) [50, 51, 23, 24, 25, 26, 27] (rp_Ord (nj_os s) (nj_club s)) := ⟨rfl, rfl, rfl⟩
theorem pa_Nj_Ord (s : NjS) (o' : (Nat → Int32)) (c' : CluS) : nj_patch (rp_Nj s) [50, 51, 23, 24, 25, 26, 27] ((rp_Ord o' c').map (nj_re [50, 51, 23, 24, 25, 26, 27])) = rp_Nj (ns_os (ns_club s c') o') := rfl
theorem em_Nj_OrdR (s : NjS) (i : Nat) (hi : i < 6) : nj_Em (rp_Nj s) [50, 51, 23, 24, 25, 26, 27, (2 + 2 * i), (3 + 2 * i)] (rp_OrdR (nj_os s) (nj_club s) ((nj_rows s) i)) :=
  match i, hi with
  | 0, _ => ⟨rfl, rfl, rfl⟩
  | 1, _ => ⟨rfl, rfl, rfl⟩
  | 2, _ => ⟨rfl, rfl, rfl⟩
  | 3, _ => ⟨rfl, rfl, rfl⟩
  | 4, _ => ⟨rfl, rfl, rfl⟩
  | 5, _ => ⟨rfl, rfl, rfl⟩
theorem pa_Nj_OrdR (s : NjS) (i : Nat) (hi : i < 6) (o' : (Nat → Int32)) (r' : RowS) : nj_patch (rp_Nj s) [50, 51, 23, 24, 25, 26, 27, (2 + 2 * i), (3 + 2 * i)] ((rp_OrdR o' (nj_club s) r').map (nj_re [50, 51, 23, 24, 25, 26, 27, (2 + 2 * i), (3 + 2 * i)])) = rp_Nj (ns_os (ns_rows s (va_up (nj_rows s) i r')) o') :=
  match i, hi with
  | 0, _ => rfl
  | 1, _ => rfl
  | 2, _ => rfl
  | 3, _ => rfl
  | 4, _ => rfl
  | 5, _ => rfl
theorem em_Nj_Rdr (s : NjS) (i : Nat) (hi : i < 4) : nj_Em (rp_Nj s) [49, (15 + 2 * i), (16 + 2 * i), 28, 29, 30, 31, 32] (rp_Rdr (nj_rd s) ((nj_texts s) i) (nj_draft s)) :=
  match i, hi with
  | 0, _ => ⟨rfl, rfl, rfl⟩
  | 1, _ => ⟨rfl, rfl, rfl⟩
  | 2, _ => ⟨rfl, rfl, rfl⟩
  | 3, _ => ⟨rfl, rfl, rfl⟩
theorem pa_Nj_Rdr (s : NjS) (i : Nat) (hi : i < 4) (d' : RdS) (c' : CluS) : nj_patch (rp_Nj s) [49, (15 + 2 * i), (16 + 2 * i), 28, 29, 30, 31, 32] ((rp_Rdr d' ((nj_texts s) i) c').map (nj_re [49, (15 + 2 * i), (16 + 2 * i), 28, 29, 30, 31, 32])) = rp_Nj (ns_draft (ns_rd s d') c') :=
  match i, hi with
  | 0, _ => rfl
  | 1, _ => rfl
  | 2, _ => rfl
  | 3, _ => rfl
theorem em_Nj_RoC (s : NjS) (i : Nat) (hi : i < 6) : nj_Em (rp_Nj s) [(2 + 2 * i), (3 + 2 * i), 23, 24, 25, 26, 27] (rp_RoC ((nj_rows s) i) (nj_club s)) :=
  match i, hi with
  | 0, _ => ⟨rfl, rfl, rfl⟩
  | 1, _ => ⟨rfl, rfl, rfl⟩
  | 2, _ => ⟨rfl, rfl, rfl⟩
  | 3, _ => ⟨rfl, rfl, rfl⟩
  | 4, _ => ⟨rfl, rfl, rfl⟩
  | 5, _ => ⟨rfl, rfl, rfl⟩
theorem em_RoC_RoC (r : RowS) (c : CluS) : nj_Em (rp_RoC r c) [0, 1, 2, 3, 4, 5, 6] (rp_RoC r c) := ⟨rfl, rfl, rfl⟩
end
section
/-! calls within one world; long compares -/
section NjSelf
variable {p : Program} {l : Launch} {e : Env} {R : Room} {s : State} {m : MethodId} {args : Array Value} {below : List Frame} {meth : Method} {c : Code} {H : Heap} {locs : List Loc} {kc ks : Nat} {Q : State → Prop}
variable {D : va_G} {dT : Nat → ClassId} {A : Nat → Prop} {sA ad : Nat → Nat} {hp hp' : List va_E} {as : List Value} {r : Option Value}
theorem nj_start0 (hK : va_K D nj_cls (nj_tys dT) s) (hNe : nj_Ne s) (hSt : nj_St sA A s s.heap) (hA : ∀ q, s.heap.size ≤ q → A q) (hsa : ∀ j, ad (1000 + j) = sA j) (hP : va_P D nj_cls (nj_pw ad dT hp) H) (hD : va_D A (nj_pw ad dT hp)) (hS : va_S A s.heap H locs) :
    (∀ U : State, U.heap = H → s.WarmedH U.vm → nj_Pre D dT sA ad H.size hp as (as.map (nj_pv ad)).toArray U) ∧ (∀ q, nj_A ad hp.length H.size q → A q) := by
  have hsub : ∀ q, nj_A ad hp.length H.size q → A q := by
    intro q hq
    rcases hq with ⟨j, hj, rfl⟩ | hq
    · exact hD.2 j _ (nj_pw_at (List.getElem?_eq_getElem hj))
    · exact hA q (Nat.le_trans hS.1 hq)
  refine ⟨fun U hU hW => ⟨rfl, by rw [hU], ⟨va_K.moved hW.alike hK, hNe.warm hW, ?_⟩, by rw [hU]; exact hP, ⟨hD.1, fun _ _ _ => trivial⟩, hsa⟩, hsub⟩
  rw [hU]
  exact ((hSt.kept (fun a h1 h2 => hS.2.1 a h1 h2)).narrow hsub).moved hW.alike
theorem nj_run0 {pc : Nat} {lm : Array Slot} {st0 rest : List Value} {a : Array Value} (hr : va_Run p l e R s m args below meth c H locs kc ks 0 0 (F0 m pc lm st0) rest (nj_Post D dT (nj_A ad hp.length H.size) ad r hp' a) (nj_A ad hp.length H.size))
    (hD : va_D A (nj_pw ad dT hp)) (hS : va_S A s.heap H locs) (hl2 : hp'.length = hp.length) (hsub : ∀ q, nj_A ad hp.length H.size q → A q)
    (kk : ∀ (H1 : Heap) (locs1 : List Loc), va_P D nj_cls (nj_pw ad dT hp') H1 → va_D A (nj_pw ad dT hp') → va_S A s.heap H1 locs1 → W p l e R s m args below meth c H1 locs1 kc ks Q (F0 m (pc + 3) lm ((r.map (nj_pv ad)).toList ++ rest))) : W p l e R s m args below meth c H locs kc ks Q (F0 m pc lm st0) := by
  intro T hT X
  obtain ⟨v, st₀, t, T', L, h0, X', hL, e1, e2, ⟨hv, hPt, hz, hk⟩, go⟩ := hr T hT X
  cases hv
  rw [h0] at hz hk
  have hD1 : va_D A (nj_pw ad dT hp') := nj_D_of hD (fun k q hq => by
    obtain ⟨e0, h1, rfl⟩ := nj_pw_of hq
    have hk1 : k < hp.length := by rw [← hl2]; exact (List.getElem?_eq_some_iff.mp h1).1
    exact ⟨_, nj_pw_at (List.getElem?_eq_getElem hk1), rfl⟩) (fun _ z => z)
  obtain ⟨t2, a1, b1⟩ := kk T'.heap (locs ++ L) (by rw [e1]; exact hPt) hD1
    ⟨Nat.le_trans hS.1 (by rw [e1]; exact hz), fun q h1 h2 => by rw [e1, hk q (Nat.lt_of_lt_of_le h1 hS.1) (fun z => h2 (hsub q z))]; exact hS.2.1 q h1 h2, fun q hq => by
      rcases List.mem_append.mp hq with h | h
      · exact hS.2.2 q h
      · exact hsub _ (hL q h)⟩ T' rfl X'
  exact ⟨t2, go t2 a1, b1⟩
end NjSelf
section NjSelfRows
variable {G : nj_G} {cc : ByteArray} {nL : Nat} {own : String} {rm : Room} {ad : Nat → Nat} {kc ks pc pc' tgt : Nat} {ls : List (Option Value)} {hp hp' : List va_E}
variable {y : MethodName} {cy : ByteArray} {nLy n idx : Nat} {rety : Option FieldType} {rmc : Room} {r : Option Value}
theorem vr_selfV (as st : List Value) (C : nj_C G cc nL own rm) (hd : nj_dc cc pc (.invokevirtual idx) pc') (h1 : pc + 3 = pc') (hlk : .methodLink own idx y ∈ nj_T0) (hy : nj_MV y cy nLy rety n) (hM : nj_Con y cy nLy rety rmc hp (.ref 0 :: as) r hp') (ho : nj_Ob y (hp[0]?)) (hna : as.length = n)
    (hst : Nat.ble ((st.map fun v => v.category).sum) 8 = true) (hrm : nj_Ro rmc rm nLy) (hkc : kc ≤ rm.cells) (hks : ks ≤ rm.slots)
    (k : nj_V G ad kc ks pc' ls (r.toList ++ st) hp') : nj_V G ad kc ks pc ls (as.reverse ++ .ref 0 :: st) hp := by
  obtain ⟨⟨p, l, e, R, s, m⟩, ⟨args, below, meth, c, Q⟩, ⟨D, dT, A, sA⟩⟩ := G
  obtain ⟨hx, hb, hml, hown, hts, hR, ⟨hK, hNe, hSt⟩, hlk0, hA⟩ := C
  intro H locs lm hsa hP hD hS hL
  subst hR
  obtain ⟨n1, h, h2⟩ := hd
  have e1 : n1 = 3 := by omega
  subst e1; subst h1
  obtain ⟨y1, y2, y3, y4, y5⟩ := hy
  obtain ⟨r1, r2, r3, r4⟩ := hrm
  obtain ⟨ci, fs, q, o1, o2, o3⟩ := ho
  obtain ⟨hs1, hsub⟩ := nj_start0 (as := .ref 0 :: as) hK hNe hSt hA hsa hP hD hS
  have cw : CallW R s args own y.cls idx y cy nLy rety (.code y cy nLy rety :: nj_T0) rmc 0 0 n := by
    refine cwV n hts (nj_goodIn fun w hw => ?_) rfl r1 r2 ⟨rfl, y5⟩ ⟨Nat.le_of_ble_eq_true r3, Nat.le_of_ble_eq_true r4⟩
    simp only [wsV, List.mem_append, List.mem_cons, List.not_mem_nil, or_false] at hw
    rcases hw with (rfl | rfl | rfl | rfl) | rfl | hw
    · exact hlk
    · exact y1
    · exact y2
    · exact y3
    · exact y4
    · exact hw
  have hrecv : ∃ cellB : Cell, H[ad 0]? = some cellB ∧ cellB.vm.isStatics = false ∧ s.vm.findClass y.cls = some cellB.cls := by
    rw [← o3]
    exact va_recv hK hP o2 (nj_pw_at (ad := ad) (dT := dT) o1)
  have hk : List.map (nj_pv ad) (as.reverse ++ .ref 0 :: st) = (as.map (nj_pv ad)).reverse ++ .ref (ad 0) :: st.map (nj_pv ad) := by
    rw [List.map_append, List.map_reverse]; rfl
  rw [hk]
  refine nj_run0 (va_runV (As := as.map (nj_pv ad)) (rest := st.map (nj_pv ad)) ⟨hx, hb, hml, hown, hts⟩ (hM.2 l D dT sA ad H.size) cw ⟨nj_blind _ _ _ _ _ _ _, hrecv, hs1⟩ rfl (by simpa using hna) (hL.1.trans hml) rfl (lv_room (by rw [nj_cats]; exact Nat.le_of_ble_eq_true hst)) h ⟨hkc, hks⟩) hD hS hM.1 hsub (fun H1 locs1 hP1 hD1 hS1 => ?_)
  have := k H1 locs1 lm hsa hP1 hD1 hS1 hL
  have e9 : List.map (nj_pv ad) (r.toList ++ st) = (r.map (nj_pv ad)).toList ++ st.map (nj_pv ad) := by cases r <;> rfl
  rwa [e9] at this

theorem vr_sVi (as st : List Value) {st0 : List Value} {v : Int32} (C : nj_C G cc nL own rm) (hd : nj_dc cc pc (.invokevirtual idx) pc') (h1 : pc + 3 = pc') (hlk : .methodLink own idx y ∈ nj_T0) (hy : nj_MV y cy nLy rety n) (hM : nj_Con y cy nLy rety rmc hp (.ref 0 :: as) (some (.int v)) hp') (ho : nj_Ob y (hp[0]?)) (hna : as.length = n) (hst : Nat.ble ((st.map fun v => v.category).sum) 8 = true) (hrm : nj_Ro rmc rm nLy) (hkc : kc ≤ rm.cells) (hks : ks ≤ rm.slots) (hsk : as.reverse ++ .ref 0 :: st = st0) (k : nj_V G ad kc ks pc' ls (.int v :: st) hp') : nj_V G ad kc ks pc ls st0 hp := by
  subst hsk
  exact vr_selfV as st C hd h1 hlk hy hM ho hna hst hrm hkc hks k
theorem vr_sVl (as st : List Value) {st0 : List Value} {v : Int64} (C : nj_C G cc nL own rm) (hd : nj_dc cc pc (.invokevirtual idx) pc') (h1 : pc + 3 = pc') (hlk : .methodLink own idx y ∈ nj_T0) (hy : nj_MV y cy nLy rety n) (hM : nj_Con y cy nLy rety rmc hp (.ref 0 :: as) (some (.long v)) hp') (ho : nj_Ob y (hp[0]?)) (hna : as.length = n) (hst : Nat.ble ((st.map fun v => v.category).sum) 8 = true) (hrm : nj_Ro rmc rm nLy) (hkc : kc ≤ rm.cells) (hks : ks ≤ rm.slots) (hsk : as.reverse ++ .ref 0 :: st = st0) (k : nj_V G ad kc ks pc' ls (.long v :: st) hp') : nj_V G ad kc ks pc ls st0 hp := by
  subst hsk
  exact vr_selfV as st C hd h1 hlk hy hM ho hna hst hrm hkc hks k
theorem vr_sVv (as st : List Value) {st0 : List Value} (C : nj_C G cc nL own rm) (hd : nj_dc cc pc (.invokevirtual idx) pc') (h1 : pc + 3 = pc') (hlk : .methodLink own idx y ∈ nj_T0) (hy : nj_MV y cy nLy rety n) (hM : nj_Con y cy nLy rety rmc hp (.ref 0 :: as) none hp') (ho : nj_Ob y (hp[0]?)) (hna : as.length = n) (hst : Nat.ble ((st.map fun v => v.category).sum) 8 = true) (hrm : nj_Ro rmc rm nLy) (hkc : kc ≤ rm.cells) (hks : ks ≤ rm.slots) (hsk : as.reverse ++ .ref 0 :: st = st0) (k : nj_V G ad kc ks pc' ls st hp') : nj_V G ad kc ks pc ls st0 hp := by
  subst hsk
  exact vr_selfV as st C hd h1 hlk hy hM ho hna hst hrm hkc hks k
theorem nj_lt (x y : Int64) : lg_cmp x y < 0 ↔ x < y := by
  unfold lg_cmp
  split
  · next h => exact ⟨fun q => absurd q (by decide), fun q => absurd (Int64.lt_trans h q) (Int64.lt_irrefl)⟩
  · split
    · next h => subst h; exact ⟨fun q => absurd q (by decide), fun q => absurd q (Int64.lt_irrefl)⟩
    · next h1 h2 => exact ⟨fun _ => by
        rcases Int64.lt_or_eq_of_le (Int64.not_lt.mp h1) with q | q
        · exact q
        · exact absurd q h2, fun _ => by decide⟩
theorem nj_eq (x y : Int64) : lg_cmp x y = 0 ↔ x = y := by
  unfold lg_cmp
  split
  · next h => exact ⟨fun q => absurd q (by decide), fun q => absurd h (by rw [q]; exact Int64.lt_irrefl)⟩
  · split
    · next h => exact ⟨fun _ => h, fun _ => rfl⟩
    · next h1 h2 => exact ⟨fun q => absurd q (by decide), fun q => absurd q h2⟩
theorem nj_gt (x y : Int64) : 0 < lg_cmp x y ↔ y < x := by
  unfold lg_cmp
  split
  · next h => exact ⟨fun _ => h, fun _ => by decide⟩
  · split
    · next h1 h => exact ⟨fun q => absurd q (by decide), fun q => absurd q h1⟩
    · next h1 h2 => exact ⟨fun q => absurd q (by decide), fun q => absurd q h1⟩
theorem nj_ge (x y : Int64) : 0 ≤ lg_cmp x y ↔ y ≤ x := by
  rw [← Int32.not_lt, ← Int64.not_lt, nj_lt]
theorem nj_le (x y : Int64) : lg_cmp x y ≤ 0 ↔ x ≤ y := by
  rw [← Int32.not_lt, ← Int64.not_lt, nj_gt]
theorem vr_lif_eq {st : List Value} {pc1 : Nat} {x y : Int64} (C : nj_C G cc nL own rm) (hd : nj_dc cc pc .lcmp pc1) (h1 : pc + 1 = pc1) (hd2 : nj_if cc pc1 .eq tgt pc') (kt : x = y → nj_V G ad kc ks tgt ls st hp) (kf : ¬ x = y → nj_V G ad kc ks pc' ls st hp) : nj_V G ad kc ks pc ls (.long y :: .long x :: st) hp := vr_lcmp C hd h1 (vr_if_eq C hd2 (fun q => kt ((nj_eq _ _).mp q)) (fun q => kf (fun z => q ((nj_eq _ _).mpr z))))
theorem vr_lif_ne {st : List Value} {pc1 : Nat} {x y : Int64} (C : nj_C G cc nL own rm) (hd : nj_dc cc pc .lcmp pc1) (h1 : pc + 1 = pc1) (hd2 : nj_if cc pc1 .ne tgt pc') (kt : ¬ x = y → nj_V G ad kc ks tgt ls st hp) (kf : x = y → nj_V G ad kc ks pc' ls st hp) : nj_V G ad kc ks pc ls (.long y :: .long x :: st) hp := vr_lcmp C hd h1 (vr_if_ne C hd2 (fun q => kt (fun z => q ((nj_eq _ _).mpr z))) (fun q => kf ((nj_eq _ _).mp q)))
theorem vr_lif_lt {st : List Value} {pc1 : Nat} {x y : Int64} (C : nj_C G cc nL own rm) (hd : nj_dc cc pc .lcmp pc1) (h1 : pc + 1 = pc1) (hd2 : nj_if cc pc1 .lt tgt pc') (kt : x < y → nj_V G ad kc ks tgt ls st hp) (kf : ¬ x < y → nj_V G ad kc ks pc' ls st hp) : nj_V G ad kc ks pc ls (.long y :: .long x :: st) hp := vr_lcmp C hd h1 (vr_if_lt C hd2 (fun q => kt ((nj_lt _ _).mp q)) (fun q => kf (fun z => q ((nj_lt _ _).mpr z))))
theorem vr_lif_ge {st : List Value} {pc1 : Nat} {x y : Int64} (C : nj_C G cc nL own rm) (hd : nj_dc cc pc .lcmp pc1) (h1 : pc + 1 = pc1) (hd2 : nj_if cc pc1 .ge tgt pc') (kt : y ≤ x → nj_V G ad kc ks tgt ls st hp) (kf : ¬ y ≤ x → nj_V G ad kc ks pc' ls st hp) : nj_V G ad kc ks pc ls (.long y :: .long x :: st) hp := vr_lcmp C hd h1 (vr_if_ge C hd2 (fun q => kt ((nj_ge _ _).mp q)) (fun q => kf (fun z => q ((nj_ge _ _).mpr z))))
theorem vr_lif_gt {st : List Value} {pc1 : Nat} {x y : Int64} (C : nj_C G cc nL own rm) (hd : nj_dc cc pc .lcmp pc1) (h1 : pc + 1 = pc1) (hd2 : nj_if cc pc1 .gt tgt pc') (kt : y < x → nj_V G ad kc ks tgt ls st hp) (kf : ¬ y < x → nj_V G ad kc ks pc' ls st hp) : nj_V G ad kc ks pc ls (.long y :: .long x :: st) hp := vr_lcmp C hd h1 (vr_if_gt C hd2 (fun q => kt ((nj_gt _ _).mp q)) (fun q => kf (fun z => q ((nj_gt _ _).mpr z))))
theorem vr_lif_le {st : List Value} {pc1 : Nat} {x y : Int64} (C : nj_C G cc nL own rm) (hd : nj_dc cc pc .lcmp pc1) (h1 : pc + 1 = pc1) (hd2 : nj_if cc pc1 .le tgt pc') (kt : x ≤ y → nj_V G ad kc ks tgt ls st hp) (kf : ¬ x ≤ y → nj_V G ad kc ks pc' ls st hp) : nj_V G ad kc ks pc ls (.long y :: .long x :: st) hp := vr_lcmp C hd h1 (vr_if_le C hd2 (fun q => kt ((nj_le _ _).mp q)) (fun q => kf (fun z => q ((nj_le _ _).mpr z))))
end NjSelfRows
def nj_fu : Nat := 1000
theorem nj_lt_of {i : Int32} {n : Nat} (h : vp_in i n) : i.toNatClampNeg < n := Nat.not_le.mp fun q => h (Or.inr q)
end
section
abbrev nj_n (i : Int32) : Nat := i.toNatClampNeg
abbrev nj_us (x y : Int32) : Int32 := (x.toUInt32 >>> (y.toUInt32 &&& Int32.toUInt32 31)).toInt32
abbrev nj_rem (x y : Int32) : Int32 := x - x / y * y
abbrev nj_rml (x y : Int64) : Int64 := x - x / y * y
abbrev nj_i2b (x : Int32) : Int32 := x.toInt8.toInt32
theorem nj_inc {i : Int32} {n : Nat} (h : nj_in i n = true) : vp_in i n := (no_i (A := some ()) (r := ()) (by rw [h]; rfl)).1
section NjK
variable {G : nj_G} {cc : ByteArray} {nL : Nat} {own : String} {rm : Room} {ad : Nat → Nat} {kc ks pc pc' : Nat} {ls : List (Option Value)} {st : List Value} {hp hp' : List va_E}
theorem vr_ialk {q n j : Nat} {f : Nat → Int32} {i : Int32} (C : nj_C G cc nL own rm) (hd : nj_dc cc pc .iaload pc') (h1 : pc + 1 = pc') (he : hp[q]? = some (.inl (0, n, .inl f))) (hin : vp_in i n) (hj : i.toNatClampNeg = j) (k : nj_V G ad kc ks pc' ls (.int (f j) :: st) hp) : nj_V G ad kc ks pc ls (.int i :: .ref q :: st) hp := by subst hj; exact vr_iald C hd h1 he hin k
theorem vr_balk {q n j : Nat} {f : Nat → Int32} {i : Int32} (C : nj_C G cc nL own rm) (hd : nj_dc cc pc .baload pc') (h1 : pc + 1 = pc') (he : hp[q]? = some (.inl (2, n, .inl f))) (hin : vp_in i n) (hj : i.toNatClampNeg = j) (k : nj_V G ad kc ks pc' ls (.int (f j) :: st) hp) : nj_V G ad kc ks pc ls (.int i :: .ref q :: st) hp := by subst hj; exact vr_bald C hd h1 he hin k
theorem vr_lalk {q n j : Nat} {f : Nat → Int64} {i : Int32} (C : nj_C G cc nL own rm) (hd : nj_dc cc pc .laload pc') (h1 : pc + 1 = pc') (he : hp[q]? = some (.inl (1, n, .inr (.inl f)))) (hin : vp_in i n) (hj : i.toNatClampNeg = j) (k : nj_V G ad kc ks pc' ls (.long (f j) :: st) hp) : nj_V G ad kc ks pc ls (.int i :: .ref q :: st) hp := by subst hj; exact vr_lald C hd h1 he hin k
theorem vr_iask {q n j : Nat} {f : Nat → Int32} {i x : Int32} (C : nj_C G cc nL own rm) (hd : nj_dc cc pc .iastore pc') (h1 : pc + 1 = pc') (he : hp[q]? = some (.inl (0, n, .inl f))) (hin : vp_in i n) (hj : i.toNatClampNeg = j) (hs : hp.set q (.inl (0, n, .inl (upd f j x))) = hp') (k : nj_V G ad kc ks pc' ls st hp') : nj_V G ad kc ks pc ls (.int x :: .int i :: .ref q :: st) hp := by subst hj; exact vr_iast C hd h1 he hin hs k
theorem vr_bask {q n j : Nat} {f : Nat → Int32} {i x : Int32} (C : nj_C G cc nL own rm) (hd : nj_dc cc pc .bastore pc') (h1 : pc + 1 = pc') (he : hp[q]? = some (.inl (2, n, .inl f))) (hin : vp_in i n) (hj : i.toNatClampNeg = j) (hs : hp.set q (.inl (2, n, .inl (upd f j (vp_nar .byte x)))) = hp') (k : nj_V G ad kc ks pc' ls st hp') : nj_V G ad kc ks pc ls (.int x :: .int i :: .ref q :: st) hp := by subst hj; exact vr_bast C hd h1 he hin hs k
theorem vr_lask {q n j : Nat} {f : Nat → Int64} {i : Int32} {x : Int64} (C : nj_C G cc nL own rm) (hd : nj_dc cc pc .lastore pc') (h1 : pc + 1 = pc') (he : hp[q]? = some (.inl (1, n, .inr (.inl f)))) (hin : vp_in i n) (hj : i.toNatClampNeg = j) (hs : hp.set q (.inl (1, n, .inr (.inl (vp_updL f j x)))) = hp') (k : nj_V G ad kc ks pc' ls st hp') : nj_V G ad kc ks pc ls (.long x :: .int i :: .ref q :: st) hp := by subst hj; exact vr_last C hd h1 he hin hs k
end NjK
end
section
/-! cells that are made: constructors -/
def nj_wv (n : Nat) (v : Value) : Bool := match v with
  | .ref k => decide (k < n) || decide (1000 ≤ k)
  | _ => true
def nj_wo (n : Nat) (o : Option Nat) : Bool := match o with
  | none => true
  | some k => decide (k < n) || decide (1000 ≤ k)
def nj_we (n : Nat) (e : va_E) : Bool := match e with
  | .inl (_, len, .inr (.inr (.inr (.inr f)))) => (List.range len).all (fun k => nj_wo n (f k))
  | .inl _ => true
  | .inr o => o.2.all (nj_wv n)
def nj_wl (n : Nat) (o : Option Value) : Bool := match o with
  | none => true
  | some v => nj_wv n v
/-- all refs are of the first n places, or of the fixed ones -/
def nj_wf (n : Nat) (ls : List (Option Value)) (st : List Value) (hp : List va_E) : Bool := ls.all (nj_wl n) && (st.all (nj_wv n) && hp.all (nj_we n))
def nj_ag (n : Nat) (ad ad' : Nat → Nat) : Prop := ∀ k, k < n ∨ 1000 ≤ k → ad' k = ad k
theorem nj_wv_ag {n : Nat} {ad ad' : Nat → Nat} (h : nj_ag n ad ad') {v : Value} (hw : nj_wv n v = true) : nj_pv ad' v = nj_pv ad v := by
  cases v with
  | ref k => simp only [nj_wv, Bool.or_eq_true, decide_eq_true_eq] at hw; simp only [nj_pv, h k hw]
  | _ => rfl
theorem nj_wo_ag {n : Nat} {ad ad' : Nat → Nat} (h : nj_ag n ad ad') {o : Option Nat} (hw : nj_wo n o = true) : o.map ad' = o.map ad := by
  cases o with
  | none => rfl
  | some k => simp only [nj_wo, Bool.or_eq_true, decide_eq_true_eq] at hw; simp only [Option.map_some, h k hw]
theorem nj_arrV (cA : ClassId) (n : Nat) {f g : Nat → Value} (h : ∀ j, j < n → f j = g j) : arrV cA n f = arrV cA n g := by
  unfold arrV
  congr 2
  funext j
  exact h j.val j.isLt
theorem nj_we_ag {D : va_G} {dT : Nat → ClassId} {n a : Nat} {ad ad' : Nat → Nat} (h : nj_ag n ad ad') {e : va_E} (hw : nj_we n e = true) {H : Heap} (hat : va_at D nj_cls (a, nj_pe ad dT e) H) : va_at D nj_cls (a, nj_pe ad' dT e) H := by
  rcases e with ⟨t, len, x⟩ | ⟨ci, fs⟩
  · rcases x with x | x | x | x | f
    · exact hat
    · exact hat
    · exact hat
    · exact hat
    · have hw2 : ∀ k, k < len → nj_wo n (f k) = true := by
        intro k hk
        exact List.all_eq_true.mp hw k (List.mem_range.mpr hk)
      have e1 : vp_cell (dT t) (len, nj_px ad (.inr (.inr (.inr (.inr f))))) = vp_cell (dT t) (len, nj_px ad' (.inr (.inr (.inr (.inr f))))) := by
        rw [nj_px, nj_px, vp_cell_q, vp_cell_q]
        exact nj_arrV _ _ (fun j hj => by rw [nj_wo_ag h (hw2 j hj)])
      show H[a]? = some _
      have h2 : H[a]? = some (vp_cell (dT t) (len, nj_px ad (.inr (.inr (.inr (.inr f)))))) := hat
      rw [h2, e1]
  · have e1 : fs.map (nj_pv ad') = fs.map (nj_pv ad) := by
      apply List.map_congr_left
      intro v hv
      exact nj_wv_ag h (List.all_eq_true.mp hw v hv)
    simp only [nj_pe] at hat ⊢
    rw [e1]
    exact hat
theorem nj_lm_ag {n nL : Nat} {ad ad' : Nat → Nat} (h : nj_ag n ad ad') {lm : Array Slot} {ls : List (Option Value)} (hw : ls.all (nj_wl n) = true) (hl : nj_lm ad nL lm ls) : nj_lm ad' nL lm ls := by
  refine ⟨hl.1, hl.2.1, fun j v hv => ?_⟩
  have := List.all_eq_true.mp hw (some v) (List.mem_of_getElem? hv)
  rw [nj_wv_ag h this]
  exact hl.2.2 j v hv
theorem nj_st_ag {n : Nat} {ad ad' : Nat → Nat} (h : nj_ag n ad ad') {st : List Value} (hw : st.all (nj_wv n) = true) : st.map (nj_pv ad') = st.map (nj_pv ad) := by
  apply List.map_congr_left
  intro v hv
  exact nj_wv_ag h (List.all_eq_true.mp hw v hv)
theorem nj_grow {D : va_G} {dT : Nat → ClassId} {A : Nat → Prop} {ad : Nat → Nat} {hp : List va_E} {e0 : va_E} {q : Nat} {H : Heap} (hn : hp.length < 1000) (hw : hp.all (nj_we hp.length) = true) (hw0 : nj_we hp.length e0 = true)
    (hP : va_P D nj_cls (nj_pw ad dT hp ++ [(q, nj_pe ad dT e0)]) H) (hD : va_D A (nj_pw ad dT hp ++ [(q, nj_pe ad dT e0)])) :
    nj_ag hp.length ad (va_up ad hp.length q) ∧ va_P D nj_cls (nj_pw (va_up ad hp.length q) dT (hp ++ [e0])) H ∧ va_D A (nj_pw (va_up ad hp.length q) dT (hp ++ [e0])) := by
  have hag : nj_ag hp.length ad (va_up ad hp.length q) := by
    intro k hk
    show (if k = hp.length then q else ad k) = ad k
    rw [if_neg (by omega)]
  have key : ∀ (k : Nat) (x : Nat × va_E), (nj_pw (va_up ad hp.length q) dT (hp ++ [e0]))[k]? = some x → ∃ y, (nj_pw ad dT hp ++ [(q, nj_pe ad dT e0)])[k]? = some y ∧ y.1 = x.1 ∧ (va_at D nj_cls y H → va_at D nj_cls x H) := by
    intro k x hx
    obtain ⟨e, h1, rfl⟩ := nj_pw_of hx
    by_cases hk : k < hp.length
    · rw [List.getElem?_append_left hk] at h1
      refine ⟨(ad k, nj_pe ad dT e), ?_, ?_, ?_⟩
      · rw [List.getElem?_append_left (by rw [nj_pw_len]; exact hk)]
        exact nj_pw_at h1
      · exact (hag k (Or.inl hk)).symm
      · intro h2
        have h3 := nj_we_ag (ad' := va_up ad hp.length q) hag (List.all_eq_true.mp hw e (List.mem_of_getElem? h1)) h2
        rw [hag k (Or.inl hk)]
        exact h3
    · have hk2 : k = hp.length := by
        have := (List.getElem?_eq_some_iff.mp h1).1
        rw [List.length_append, List.length_singleton] at this
        omega
      subst hk2
      rw [List.getElem?_append_right (Nat.le_refl _), Nat.sub_self] at h1
      cases h1
      have e9 : va_up ad hp.length q hp.length = q := if_pos rfl
      refine ⟨(q, nj_pe ad dT e0), ?_, ?_, ?_⟩
      · rw [List.getElem?_append_right (by rw [nj_pw_len]; exact Nat.le_refl _), nj_pw_len, Nat.sub_self]
        rfl
      · exact e9.symm
      · intro h2
        have h3 := nj_we_ag (ad' := va_up ad hp.length q) hag hw0 h2
        rw [e9]
        exact h3
  refine ⟨hag, fun k x hx => ?_, nj_D_of hD (fun k x hx => ?_) (fun _ z => z)⟩
  · obtain ⟨y, h1, -, h3⟩ := key k x hx
    exact h3 (hP k y h1)
  · obtain ⟨y, h1, h2, -⟩ := key k x hx
    exact ⟨y, h1, h2⟩
def nj_AO (U : State) : Prop := va_AO nj_RRow U ∧ va_AO nj_RText U ∧ va_AO nj_RClub U
theorem nj_AO.moved {u U : State} (hvm : u.vm.Alike U.vm) (h : nj_AO u) : nj_AO U := ⟨h.1.moved hvm, h.2.1.moved hvm, h.2.2.moved hvm⟩
/-- a constructor's context -/
def nj_CA (G : nj_G) (cc : ByteArray) (nL : Nat) (own : String) (rm : Room) : Prop := nj_C G cc nL own rm ∧ nj_AO G.1.2.2.2.2.1 ∧ G.2.1.2.2.1.name = "<init>"
theorem nj_pw_app (ad : Nat → Nat) (dT : Nat → ClassId) (hp : List va_E) : nj_pw ad dT hp = nj_pw ad dT hp := rfl
section NjAlloc
variable {G : nj_G} {cc : ByteArray} {nL : Nat} {own : String} {rm : Room} {ad : Nat → Nat} {kc ks pc pc' : Nat} {ls : List (Option Value)} {st : List Value} {hp hp' : List va_E}
theorem vr_newo {idx ci N : Nat} {C0 : String} {T : u_T} {fs : List Value} (C : nj_C G cc nL own rm) (hd : nj_dc cc pc (.new idx) pc') (h1 : pc + 3 = pc') (hw1 : .classLink own idx C0 ∈ nj_T0) (hw2 : .instantiable C0 N ∈ nj_T0) (hw3 : .initialized C0 ∈ nj_T0) (hc : nj_cls[ci]? = some (C0, T, N)) (ty : Nat → FieldType) (hty : ∀ k, k < N → parseFieldDescriptor (T k).2.2.1 = some (ty k)) (hfs : ∀ j, j < N → defaultValue (ty j) = vp_V fs j) (hnr : fs.all (fun v => match v with | .ref _ => false | _ => true) = true)
    (hn : Nat.blt hp.length 1000 = true) (hwf : nj_wf hp.length ls st hp = true) (hkc : Nat.ble (kc + 1) rm.cells = true) (hks : Nat.ble (ks + N) rm.slots = true) (k : ∀ ad', nj_ag hp.length ad ad' → nj_V G ad' (kc + 1) (ks + N) pc' ls (.ref hp.length :: st) (hp ++ [.inr (ci, fs)])) : nj_V G ad kc ks pc ls st hp := by
  obtain ⟨⟨p, l, e, R, s, m⟩, ⟨args, below, meth, c, Q⟩, ⟨D, dT, A, sA⟩⟩ := G
  obtain ⟨hx, hb, hml, hown, hts, hR, ⟨hK, hNe, hSt⟩, hlk, hA⟩ := C
  intro H locs lm hsa hP hD hS hL
  subst hR
  obtain ⟨n1, h, h2⟩ := hd
  have e1 : n1 = 3 := by omega
  subst e1; subst h1
  simp only [nj_wf, Bool.and_eq_true] at hwf
  obtain ⟨f1, f2, f3⟩ := hwf
  have hn : hp.length < 1000 := by simpa [Nat.blt_eq] using hn
  have hfs2 : fs.map (nj_pv ad) = fs := by
    conv => rhs; rw [← List.map_id fs]
    apply List.map_congr_left
    intro v hv
    have := List.all_eq_true.mp hnr v hv
    cases v <;> first | rfl | (simp at this)
  have hw0 : nj_we hp.length (.inr (ci, fs)) = true := by
    refine List.all_eq_true.mpr (fun v hv => ?_)
    have := List.all_eq_true.mp hnr v hv
    cases v <;> first | rfl | (simp at this)
  refine va_new (C := C0) (T := T) (N := N) (ci := ci) (fs := fs) hx hb hts (nj_cls_ok _ (List.mem_of_getElem? hc)).1 ty hty hown (hts _ hw1) (hts _ hw2) (hts _ hw3) hK hP hD hS hA hc hfs (Nat.le_of_ble_eq_true hkc) (Nat.le_of_ble_eq_true hks) h (fun q H1 hP1 hD1 hS1 => ?_)
  have e5 : (q, (.inr (ci, fs) : va_E)) = (q, nj_pe ad dT (.inr (ci, fs))) := by simp only [nj_pe, hfs2]
  rw [e5] at hP1 hD1
  obtain ⟨g1, g2, g3⟩ := nj_grow hn f3 hw0 hP1 hD1
  have := k _ g1 H1 locs lm (fun j => by rw [g1 (1000 + j) (Or.inr (by omega))]; exact hsa j) g2 g3 hS1 (nj_lm_ag g1 f1 hL)
  have e6 : List.map (nj_pv (va_up ad hp.length q)) (.ref hp.length :: st) = .ref q :: st.map (nj_pv ad) := by
    rw [List.map_cons, nj_st_ag g1 f2]
    simp [nj_pv, va_up]
  rwa [e6] at this

theorem vr_newI {n : Int32} (N : Nat) (C : nj_C G cc nL own rm) (hd : nj_dc cc pc (.newarray .int) pc') (h1 : pc + 2 = pc') (hw : .arrayClass .int ∈ nj_T0) (hn0 : ¬ n < 0) (hN : n.toNatClampNeg = N) (hby : Nat.ble (N * 8) 536870912 = true)
    (hn : Nat.blt hp.length 1000 = true) (hwf : nj_wf hp.length ls st hp = true) (hkc : Nat.ble (kc + 1) rm.cells = true) (hks : Nat.ble (ks + N) rm.slots = true) (k : ∀ ad', nj_ag hp.length ad ad' → nj_V G ad' (kc + 1) (ks + N) pc' ls (.ref hp.length :: st) (hp ++ [.inl (0, N, .inl (fun _ => 0))])) : nj_V G ad kc ks pc ls (.int n :: st) hp := by
  obtain ⟨⟨p, l, e, R, s, m⟩, ⟨args, below, meth, c, Q⟩, ⟨D, dT, A, sA⟩⟩ := G
  obtain ⟨hx, hb, hml, hown, hts, hR, ⟨hK, hNe, hSt⟩, hlk, hA⟩ := C
  intro H locs lm hsa hP hD hS hL
  subst hR
  obtain ⟨n1, h, h2⟩ := hd
  have e1 : n1 = 2 := by omega
  subst e1; subst h1
  simp only [nj_wf, Bool.and_eq_true] at hwf
  obtain ⟨f1, f2, f3⟩ := hwf
  have hn : hp.length < 1000 := by simpa [Nat.blt_eq] using hn
  have hby := Nat.le_of_ble_eq_true hby
  refine va_newa (atype := .int) (ty := .int) (a0 := (N, .inl (fun _ => 0))) hx hb (hts _ hw) rfl hK hP hD hS hA (fun cA => rfl) hn0 hN (by simp only [componentBytes]; omega) (Nat.le_of_ble_eq_true hkc) (Nat.le_of_ble_eq_true hks) h (fun q cA H1 hK1 hP1 hD1 hS1 => ?_)
  have r1 : s.vm.findClass ("[" ++ (FieldType.int).toString) = some cA := (hK1.2 6 (cA, .int) rfl).2
  have r2 : s.vm.findClass ("[" ++ (FieldType.int).toString) = some (dT 0) := (hK.2 0 (dT 0, .int) rfl).2
  have r3 : cA = dT 0 := Option.some.inj (r1.symm.trans r2)
  subst r3
  have e5 : (q, (.inl (dT 0, N, .inl (fun _ => 0)) : va_E)) = (q, nj_pe ad dT (.inl (0, N, .inl (fun _ => 0)))) := rfl
  rw [e5] at hP1 hD1
  obtain ⟨g1, g2, g3⟩ := nj_grow hn f3 rfl hP1 hD1
  have := k _ g1 H1 locs lm (fun j => by rw [g1 (1000 + j) (Or.inr (by omega))]; exact hsa j) g2 g3 hS1 (nj_lm_ag g1 f1 hL)
  have e6 : List.map (nj_pv (va_up ad hp.length q)) (.ref hp.length :: st) = .ref q :: st.map (nj_pv ad) := by
    rw [List.map_cons, nj_st_ag g1 f2]
    simp [nj_pv, va_up]
  rwa [e6] at this
theorem vr_newL {n : Int32} (N : Nat) (C : nj_C G cc nL own rm) (hd : nj_dc cc pc (.newarray .long) pc') (h1 : pc + 2 = pc') (hw : .arrayClass .long ∈ nj_T0) (hn0 : ¬ n < 0) (hN : n.toNatClampNeg = N) (hby : Nat.ble (N * 8) 536870912 = true)
    (hn : Nat.blt hp.length 1000 = true) (hwf : nj_wf hp.length ls st hp = true) (hkc : Nat.ble (kc + 1) rm.cells = true) (hks : Nat.ble (ks + N) rm.slots = true) (k : ∀ ad', nj_ag hp.length ad ad' → nj_V G ad' (kc + 1) (ks + N) pc' ls (.ref hp.length :: st) (hp ++ [.inl (1, N, .inr (.inl (fun _ => 0)))])) : nj_V G ad kc ks pc ls (.int n :: st) hp := by
  obtain ⟨⟨p, l, e, R, s, m⟩, ⟨args, below, meth, c, Q⟩, ⟨D, dT, A, sA⟩⟩ := G
  obtain ⟨hx, hb, hml, hown, hts, hR, ⟨hK, hNe, hSt⟩, hlk, hA⟩ := C
  intro H locs lm hsa hP hD hS hL
  subst hR
  obtain ⟨n1, h, h2⟩ := hd
  have e1 : n1 = 2 := by omega
  subst e1; subst h1
  simp only [nj_wf, Bool.and_eq_true] at hwf
  obtain ⟨f1, f2, f3⟩ := hwf
  have hn : hp.length < 1000 := by simpa [Nat.blt_eq] using hn
  have hby := Nat.le_of_ble_eq_true hby
  refine va_newa (atype := .long) (ty := .long) (a0 := (N, .inr (.inl (fun _ => 0)))) hx hb (hts _ hw) rfl hK hP hD hS hA (fun cA => rfl) hn0 hN (by simp only [componentBytes]; omega) (Nat.le_of_ble_eq_true hkc) (Nat.le_of_ble_eq_true hks) h (fun q cA H1 hK1 hP1 hD1 hS1 => ?_)
  have r1 : s.vm.findClass ("[" ++ (FieldType.long).toString) = some cA := (hK1.2 6 (cA, .long) rfl).2
  have r2 : s.vm.findClass ("[" ++ (FieldType.long).toString) = some (dT 1) := (hK.2 1 (dT 1, .long) rfl).2
  have r3 : cA = dT 1 := Option.some.inj (r1.symm.trans r2)
  subst r3
  have e5 : (q, (.inl (dT 1, N, .inr (.inl (fun _ => 0))) : va_E)) = (q, nj_pe ad dT (.inl (1, N, .inr (.inl (fun _ => 0))))) := rfl
  rw [e5] at hP1 hD1
  obtain ⟨g1, g2, g3⟩ := nj_grow hn f3 rfl hP1 hD1
  have := k _ g1 H1 locs lm (fun j => by rw [g1 (1000 + j) (Or.inr (by omega))]; exact hsa j) g2 g3 hS1 (nj_lm_ag g1 f1 hL)
  have e6 : List.map (nj_pv (va_up ad hp.length q)) (.ref hp.length :: st) = .ref q :: st.map (nj_pv ad) := by
    rw [List.map_cons, nj_st_ag g1 f2]
    simp [nj_pv, va_up]
  rwa [e6] at this
theorem vr_newB {n : Int32} (N : Nat) (C : nj_C G cc nL own rm) (hd : nj_dc cc pc (.newarray .byte) pc') (h1 : pc + 2 = pc') (hw : .arrayClass .byte ∈ nj_T0) (hn0 : ¬ n < 0) (hN : n.toNatClampNeg = N) (hby : Nat.ble (N * 8) 536870912 = true)
    (hn : Nat.blt hp.length 1000 = true) (hwf : nj_wf hp.length ls st hp = true) (hkc : Nat.ble (kc + 1) rm.cells = true) (hks : Nat.ble (ks + N) rm.slots = true) (k : ∀ ad', nj_ag hp.length ad ad' → nj_V G ad' (kc + 1) (ks + N) pc' ls (.ref hp.length :: st) (hp ++ [.inl (2, N, .inl (fun _ => 0))])) : nj_V G ad kc ks pc ls (.int n :: st) hp := by
  obtain ⟨⟨p, l, e, R, s, m⟩, ⟨args, below, meth, c, Q⟩, ⟨D, dT, A, sA⟩⟩ := G
  obtain ⟨hx, hb, hml, hown, hts, hR, ⟨hK, hNe, hSt⟩, hlk, hA⟩ := C
  intro H locs lm hsa hP hD hS hL
  subst hR
  obtain ⟨n1, h, h2⟩ := hd
  have e1 : n1 = 2 := by omega
  subst e1; subst h1
  simp only [nj_wf, Bool.and_eq_true] at hwf
  obtain ⟨f1, f2, f3⟩ := hwf
  have hn : hp.length < 1000 := by simpa [Nat.blt_eq] using hn
  have hby := Nat.le_of_ble_eq_true hby
  refine va_newa (atype := .byte) (ty := .byte) (a0 := (N, .inl (fun _ => 0))) hx hb (hts _ hw) rfl hK hP hD hS hA (fun cA => rfl) hn0 hN (by simp only [componentBytes]; omega) (Nat.le_of_ble_eq_true hkc) (Nat.le_of_ble_eq_true hks) h (fun q cA H1 hK1 hP1 hD1 hS1 => ?_)
  have r1 : s.vm.findClass ("[" ++ (FieldType.byte).toString) = some cA := (hK1.2 6 (cA, .byte) rfl).2
  have r2 : s.vm.findClass ("[" ++ (FieldType.byte).toString) = some (dT 2) := (hK.2 2 (dT 2, .byte) rfl).2
  have r3 : cA = dT 2 := Option.some.inj (r1.symm.trans r2)
  subst r3
  have e5 : (q, (.inl (dT 2, N, .inl (fun _ => 0)) : va_E)) = (q, nj_pe ad dT (.inl (2, N, .inl (fun _ => 0)))) := rfl
  rw [e5] at hP1 hD1
  obtain ⟨g1, g2, g3⟩ := nj_grow hn f3 rfl hP1 hD1
  have := k _ g1 H1 locs lm (fun j => by rw [g1 (1000 + j) (Or.inr (by omega))]; exact hsa j) g2 g3 hS1 (nj_lm_ag g1 f1 hL)
  have e6 : List.map (nj_pv (va_up ad hp.length q)) (.ref hp.length :: st) = .ref q :: st.map (nj_pv ad) := by
    rw [List.map_cons, nj_st_ag g1 f2]
    simp [nj_pv, va_up]
  rwa [e6] at this
theorem vr_newq3 {n : Int32} {idx : Nat} (N : Nat) (CA : nj_CA G cc nL own rm) (hd : nj_dc cc pc (.anewarray idx) pc') (h1 : pc + 3 = pc') (hw : .classLink own idx nj_RRow ∈ nj_T0) (hn0 : ¬ n < 0) (hN : n.toNatClampNeg = N) (hby : Nat.ble (N * 4) 536870912 = true)
    (hn : Nat.blt hp.length 1000 = true) (hwf : nj_wf hp.length ls st hp = true) (hkc : Nat.ble (kc + 1) rm.cells = true) (hks : Nat.ble (ks + N) rm.slots = true) (k : ∀ ad', nj_ag hp.length ad ad' → nj_V G ad' (kc + 1) (ks + N) pc' ls (.ref hp.length :: st) (hp ++ [.inl (3, N, .inr (.inr (.inr (.inr (fun _ => none)))))])) : nj_V G ad kc ks pc ls (.int n :: st) hp := by
  obtain ⟨C, hAO, -⟩ := CA
  obtain ⟨⟨p, l, e, R, s, m⟩, ⟨args, below, meth, c, Q⟩, ⟨D, dT, A, sA⟩⟩ := G
  obtain ⟨hx, hb, hml, hown, hts, hR, ⟨hK, hNe, hSt⟩, hlk, hA⟩ := C
  intro H locs lm hsa hP hD hS hL
  subst hR
  obtain ⟨n1, h, h2⟩ := hd
  have e1 : n1 = 3 := by omega
  subst e1; subst h1
  simp only [nj_wf, Bool.and_eq_true] at hwf
  obtain ⟨f1, f2, f3⟩ := hwf
  have hn : hp.length < 1000 := by simpa [Nat.blt_eq] using hn
  refine va_newq hx hb hown (hts _ hw) hAO.1 hK hP hD hS hA hn0 hN (Nat.le_of_ble_eq_true hby) (Nat.le_of_ble_eq_true hkc) (Nat.le_of_ble_eq_true hks) h (fun q cA H1 hK1 hP1 hD1 hS1 => ?_)
  obtain ⟨_, _, _, _, _, r1⟩ := (hK1.2 6 (cA, .object nj_RRow) rfl).2
  obtain ⟨_, _, _, _, _, r2⟩ := (hK.2 3 (dT 3, .object nj_RRow) rfl).2
  have r3 : cA = dT 3 := Option.some.inj (r1.symm.trans r2)
  subst r3
  have e5 : (q, (.inl (dT 3, N, .inr (.inr (.inr (.inr (fun _ => none))))) : va_E)) = (q, nj_pe ad dT (.inl (3, N, .inr (.inr (.inr (.inr (fun _ => none))))))) := rfl
  rw [e5] at hP1 hD1
  obtain ⟨g1, g2, g3⟩ := nj_grow hn f3 (by simp [nj_we, nj_wo]) hP1 hD1
  have := k _ g1 H1 locs lm (fun j => by rw [g1 (1000 + j) (Or.inr (by omega))]; exact hsa j) g2 g3 hS1 (nj_lm_ag g1 f1 hL)
  have e6 : List.map (nj_pv (va_up ad hp.length q)) (.ref hp.length :: st) = .ref q :: st.map (nj_pv ad) := by
    rw [List.map_cons, nj_st_ag g1 f2]
    simp [nj_pv, va_up]
  rwa [e6] at this
theorem vr_newq4 {n : Int32} {idx : Nat} (N : Nat) (CA : nj_CA G cc nL own rm) (hd : nj_dc cc pc (.anewarray idx) pc') (h1 : pc + 3 = pc') (hw : .classLink own idx nj_RText ∈ nj_T0) (hn0 : ¬ n < 0) (hN : n.toNatClampNeg = N) (hby : Nat.ble (N * 4) 536870912 = true)
    (hn : Nat.blt hp.length 1000 = true) (hwf : nj_wf hp.length ls st hp = true) (hkc : Nat.ble (kc + 1) rm.cells = true) (hks : Nat.ble (ks + N) rm.slots = true) (k : ∀ ad', nj_ag hp.length ad ad' → nj_V G ad' (kc + 1) (ks + N) pc' ls (.ref hp.length :: st) (hp ++ [.inl (4, N, .inr (.inr (.inr (.inr (fun _ => none)))))])) : nj_V G ad kc ks pc ls (.int n :: st) hp := by
  obtain ⟨C, hAO, -⟩ := CA
  obtain ⟨⟨p, l, e, R, s, m⟩, ⟨args, below, meth, c, Q⟩, ⟨D, dT, A, sA⟩⟩ := G
  obtain ⟨hx, hb, hml, hown, hts, hR, ⟨hK, hNe, hSt⟩, hlk, hA⟩ := C
  intro H locs lm hsa hP hD hS hL
  subst hR
  obtain ⟨n1, h, h2⟩ := hd
  have e1 : n1 = 3 := by omega
  subst e1; subst h1
  simp only [nj_wf, Bool.and_eq_true] at hwf
  obtain ⟨f1, f2, f3⟩ := hwf
  have hn : hp.length < 1000 := by simpa [Nat.blt_eq] using hn
  refine va_newq hx hb hown (hts _ hw) hAO.2.1 hK hP hD hS hA hn0 hN (Nat.le_of_ble_eq_true hby) (Nat.le_of_ble_eq_true hkc) (Nat.le_of_ble_eq_true hks) h (fun q cA H1 hK1 hP1 hD1 hS1 => ?_)
  obtain ⟨_, _, _, _, _, r1⟩ := (hK1.2 6 (cA, .object nj_RText) rfl).2
  obtain ⟨_, _, _, _, _, r2⟩ := (hK.2 4 (dT 4, .object nj_RText) rfl).2
  have r3 : cA = dT 4 := Option.some.inj (r1.symm.trans r2)
  subst r3
  have e5 : (q, (.inl (dT 4, N, .inr (.inr (.inr (.inr (fun _ => none))))) : va_E)) = (q, nj_pe ad dT (.inl (4, N, .inr (.inr (.inr (.inr (fun _ => none))))))) := rfl
  rw [e5] at hP1 hD1
  obtain ⟨g1, g2, g3⟩ := nj_grow hn f3 (by simp [nj_we, nj_wo]) hP1 hD1
  have := k _ g1 H1 locs lm (fun j => by rw [g1 (1000 + j) (Or.inr (by omega))]; exact hsa j) g2 g3 hS1 (nj_lm_ag g1 f1 hL)
  have e6 : List.map (nj_pv (va_up ad hp.length q)) (.ref hp.length :: st) = .ref q :: st.map (nj_pv ad) := by
    rw [List.map_cons, nj_st_ag g1 f2]
    simp [nj_pv, va_up]
  rwa [e6] at this
theorem vr_newq5 {n : Int32} {idx : Nat} (N : Nat) (CA : nj_CA G cc nL own rm) (hd : nj_dc cc pc (.anewarray idx) pc') (h1 : pc + 3 = pc') (hw : .classLink own idx nj_RClub ∈ nj_T0) (hn0 : ¬ n < 0) (hN : n.toNatClampNeg = N) (hby : Nat.ble (N * 4) 536870912 = true)
    (hn : Nat.blt hp.length 1000 = true) (hwf : nj_wf hp.length ls st hp = true) (hkc : Nat.ble (kc + 1) rm.cells = true) (hks : Nat.ble (ks + N) rm.slots = true) (k : ∀ ad', nj_ag hp.length ad ad' → nj_V G ad' (kc + 1) (ks + N) pc' ls (.ref hp.length :: st) (hp ++ [.inl (5, N, .inr (.inr (.inr (.inr (fun _ => none)))))])) : nj_V G ad kc ks pc ls (.int n :: st) hp := by
  obtain ⟨C, hAO, -⟩ := CA
  obtain ⟨⟨p, l, e, R, s, m⟩, ⟨args, below, meth, c, Q⟩, ⟨D, dT, A, sA⟩⟩ := G
  obtain ⟨hx, hb, hml, hown, hts, hR, ⟨hK, hNe, hSt⟩, hlk, hA⟩ := C
  intro H locs lm hsa hP hD hS hL
  subst hR
  obtain ⟨n1, h, h2⟩ := hd
  have e1 : n1 = 3 := by omega
  subst e1; subst h1
  simp only [nj_wf, Bool.and_eq_true] at hwf
  obtain ⟨f1, f2, f3⟩ := hwf
  have hn : hp.length < 1000 := by simpa [Nat.blt_eq] using hn
  refine va_newq hx hb hown (hts _ hw) hAO.2.2 hK hP hD hS hA hn0 hN (Nat.le_of_ble_eq_true hby) (Nat.le_of_ble_eq_true hkc) (Nat.le_of_ble_eq_true hks) h (fun q cA H1 hK1 hP1 hD1 hS1 => ?_)
  obtain ⟨_, _, _, _, _, r1⟩ := (hK1.2 6 (cA, .object nj_RClub) rfl).2
  obtain ⟨_, _, _, _, _, r2⟩ := (hK.2 5 (dT 5, .object nj_RClub) rfl).2
  have r3 : cA = dT 5 := Option.some.inj (r1.symm.trans r2)
  subst r3
  have e5 : (q, (.inl (dT 5, N, .inr (.inr (.inr (.inr (fun _ => none))))) : va_E)) = (q, nj_pe ad dT (.inl (5, N, .inr (.inr (.inr (.inr (fun _ => none))))))) := rfl
  rw [e5] at hP1 hD1
  obtain ⟨g1, g2, g3⟩ := nj_grow hn f3 (by simp [nj_we, nj_wo]) hP1 hD1
  have := k _ g1 H1 locs lm (fun j => by rw [g1 (1000 + j) (Or.inr (by omega))]; exact hsa j) g2 g3 hS1 (nj_lm_ag g1 f1 hL)
  have e6 : List.map (nj_pv (va_up ad hp.length q)) (.ref hp.length :: st) = .ref q :: st.map (nj_pv ad) := by
    rw [List.map_cons, nj_st_ag g1 f2]
    simp [nj_pv, va_up]
  rwa [e6] at this
theorem vr_putF {idx ci k0 q y : Nat} {ty : FieldType} {fs : List Value} (CA : nj_CA G cc nL own rm) (hd : nj_dc cc pc (.putfield idx) pc') (h1 : pc + 3 = pc') (hf : nj_FL own idx ci k0 ty true) (hdecl : ∀ r, nj_cls[ci]? = some r → (r.2.1 k0).1 = own) (hn : ∀ a, narrow ty (.ref a) = .ref a) (hfit : ∀ a, fits ty (.ref a) = true) (he : hp[q]? = some (.inr (ci, fs))) (hl : Nat.blt k0 fs.length = true) (hs : hp.set q (.inr (ci, fs.set k0 (.ref y))) = hp') (k : nj_V G ad kc ks pc' ls st hp') : nj_V G ad kc ks pc ls (.ref y :: .ref q :: st) hp := by
  obtain ⟨C, hAO, hnm⟩ := CA
  obtain ⟨⟨p, l, e, R, s, m⟩, ⟨args, below, meth, c, Q⟩, ⟨D, dT, A, sA⟩⟩ := G
  obtain ⟨hx, hb, hml, hown, hts, hR, ⟨hK, hNe, hSt⟩, hlk, hA⟩ := C
  intro H locs lm hsa hP hD hS hL
  obtain ⟨n1, h, h2⟩ := hd
  have e1 : n1 = 3 := by omega
  subst e1; subst h1
  obtain ⟨r, hc, hk, hl2, hty, hfi⟩ := hf
  obtain ⟨c1, ⟨ty0, c2⟩, c3⟩ := nj_cls_ok r (List.mem_of_getElem? hc)
  have hl3 : k0 < fs.length := by simpa [Nat.blt_eq] using hl
  refine va_putF (C := r.1) (T := r.2.1) (N := r.2.2) (v := .ref (ad y)) hx hb hts c1 ty0 c2 c3 hown hK hP hD hS q (nj_pw_at he) hc k0 hk (hts _ hl2) (fun _ z => z) hfi hnm (hdecl r hc) hty (hn _) (hfit _) (by simpa using hl3) h (fun H1 locs1 hP1 hD1 hS1 => ?_)
  have e9 : (nj_pw ad dT hp).set q (ad q, .inr (ci, (fs.map (nj_pv ad)).set k0 (.ref (ad y)))) = nj_pw ad dT hp' := by
    rw [← hs, ← nj_pw_set]
    simp [nj_pe, List.map_set, nj_pv]
  exact k H1 locs1 lm hsa (e9 ▸ hP1) (e9 ▸ hD1) hS1 hL
theorem vr_aast3 {q n y ci j : Nat} {f : Nat → Option Nat} {i : Int32} {vs : List Value} {T : u_T} {N : Nat} (C : nj_C G cc nL own rm) (hd : nj_dc cc pc .aastore pc') (h1 : pc + 1 = pc') (he : hp[q]? = some (.inl (3, n, .inr (.inr (.inr (.inr f)))))) (hv : hp[y]? = some (.inr (ci, vs))) (hc : nj_cls[ci]? = some (nj_RRow, T, N)) (hin : vp_in i n) (hj : i.toNatClampNeg = j) (hs : hp.set q (.inl (3, n, .inr (.inr (.inr (.inr (va_up f j (some y))))))) = hp') (k : nj_V G ad kc ks pc' ls st hp') : nj_V G ad kc ks pc ls (.ref y :: .int i :: .ref q :: st) hp := by
  obtain ⟨⟨p, l, e, R, s, m⟩, ⟨args, below, meth, c, Q⟩, ⟨D, dT, A, sA⟩⟩ := G
  obtain ⟨hx, hb, hml, hown, hts, hR, ⟨hK, hNe, hSt⟩, hlk, hA⟩ := C
  intro H locs lm hsa hP hD hS hL
  subst hj
  obtain ⟨n1, h, h2⟩ := hd
  have e1 : n1 = 1 := by omega
  subst e1; subst h1
  refine va_astq (r := (nj_RRow, T, N)) hx hb hK hP hD hS q 3 y ci (nj_pw_at he) rfl (nj_pw_at hv) hc hin h (fun H1 locs1 hP1 hD1 hS1 => ?_)
  have e9 : (nj_pw ad dT hp).set q (ad q, .inl (dT 3, n, .inr (.inr (.inr (.inr (va_up (fun k => (f k).map ad) i.toNatClampNeg (some (ad y)))))))) = nj_pw ad dT hp' := by
    rw [← hs, ← nj_pw_set]
    have e8 : va_up (fun k => (f k).map ad) i.toNatClampNeg (some (ad y)) = (fun k => (va_up f i.toNatClampNeg (some y) k).map ad) := by
      funext k
      by_cases hk : k = i.toNatClampNeg
      · subst hk; simp [va_up]
      · simp [va_up, hk]
    rw [e8]
    rfl
  exact k H1 locs1 lm hsa (e9 ▸ hP1) (e9 ▸ hD1) hS1 hL
theorem vr_aast4 {q n y ci j : Nat} {f : Nat → Option Nat} {i : Int32} {vs : List Value} {T : u_T} {N : Nat} (C : nj_C G cc nL own rm) (hd : nj_dc cc pc .aastore pc') (h1 : pc + 1 = pc') (he : hp[q]? = some (.inl (4, n, .inr (.inr (.inr (.inr f)))))) (hv : hp[y]? = some (.inr (ci, vs))) (hc : nj_cls[ci]? = some (nj_RText, T, N)) (hin : vp_in i n) (hj : i.toNatClampNeg = j) (hs : hp.set q (.inl (4, n, .inr (.inr (.inr (.inr (va_up f j (some y))))))) = hp') (k : nj_V G ad kc ks pc' ls st hp') : nj_V G ad kc ks pc ls (.ref y :: .int i :: .ref q :: st) hp := by
  obtain ⟨⟨p, l, e, R, s, m⟩, ⟨args, below, meth, c, Q⟩, ⟨D, dT, A, sA⟩⟩ := G
  obtain ⟨hx, hb, hml, hown, hts, hR, ⟨hK, hNe, hSt⟩, hlk, hA⟩ := C
  intro H locs lm hsa hP hD hS hL
  subst hj
  obtain ⟨n1, h, h2⟩ := hd
  have e1 : n1 = 1 := by omega
  subst e1; subst h1
  refine va_astq (r := (nj_RText, T, N)) hx hb hK hP hD hS q 4 y ci (nj_pw_at he) rfl (nj_pw_at hv) hc hin h (fun H1 locs1 hP1 hD1 hS1 => ?_)
  have e9 : (nj_pw ad dT hp).set q (ad q, .inl (dT 4, n, .inr (.inr (.inr (.inr (va_up (fun k => (f k).map ad) i.toNatClampNeg (some (ad y)))))))) = nj_pw ad dT hp' := by
    rw [← hs, ← nj_pw_set]
    have e8 : va_up (fun k => (f k).map ad) i.toNatClampNeg (some (ad y)) = (fun k => (va_up f i.toNatClampNeg (some y) k).map ad) := by
      funext k
      by_cases hk : k = i.toNatClampNeg
      · subst hk; simp [va_up]
      · simp [va_up, hk]
    rw [e8]
    rfl
  exact k H1 locs1 lm hsa (e9 ▸ hP1) (e9 ▸ hD1) hS1 hL
theorem vr_aast5 {q n y ci j : Nat} {f : Nat → Option Nat} {i : Int32} {vs : List Value} {T : u_T} {N : Nat} (C : nj_C G cc nL own rm) (hd : nj_dc cc pc .aastore pc') (h1 : pc + 1 = pc') (he : hp[q]? = some (.inl (5, n, .inr (.inr (.inr (.inr f)))))) (hv : hp[y]? = some (.inr (ci, vs))) (hc : nj_cls[ci]? = some (nj_RClub, T, N)) (hin : vp_in i n) (hj : i.toNatClampNeg = j) (hs : hp.set q (.inl (5, n, .inr (.inr (.inr (.inr (va_up f j (some y))))))) = hp') (k : nj_V G ad kc ks pc' ls st hp') : nj_V G ad kc ks pc ls (.ref y :: .int i :: .ref q :: st) hp := by
  obtain ⟨⟨p, l, e, R, s, m⟩, ⟨args, below, meth, c, Q⟩, ⟨D, dT, A, sA⟩⟩ := G
  obtain ⟨hx, hb, hml, hown, hts, hR, ⟨hK, hNe, hSt⟩, hlk, hA⟩ := C
  intro H locs lm hsa hP hD hS hL
  subst hj
  obtain ⟨n1, h, h2⟩ := hd
  have e1 : n1 = 1 := by omega
  subst e1; subst h1
  refine va_astq (r := (nj_RClub, T, N)) hx hb hK hP hD hS q 5 y ci (nj_pw_at he) rfl (nj_pw_at hv) hc hin h (fun H1 locs1 hP1 hD1 hS1 => ?_)
  have e9 : (nj_pw ad dT hp).set q (ad q, .inl (dT 5, n, .inr (.inr (.inr (.inr (va_up (fun k => (f k).map ad) i.toNatClampNeg (some (ad y)))))))) = nj_pw ad dT hp' := by
    rw [← hs, ← nj_pw_set]
    have e8 : va_up (fun k => (f k).map ad) i.toNatClampNeg (some (ad y)) = (fun k => (va_up f i.toNatClampNeg (some y) k).map ad) := by
      funext k
      by_cases hk : k = i.toNatClampNeg
      · subst hk; simp [va_up]
      · simp [va_up, hk]
    rw [e8]
    rfl
  exact k H1 locs1 lm hsa (e9 ▸ hP1) (e9 ▸ hD1) hS1 hL
theorem vr_oin {idx q : Nat} (C : nj_C G cc nL own rm) (hd : nj_dc cc pc (.invokespecial idx) pc') (h1 : pc + 3 = pc') (hw : .methodLink own idx Lib.objectInit ∈ nj_T0) (hw2 : .instanceMethod Lib.objectInit ∈ nj_T0) (hw3 : .code Lib.objectInit ⟨#[0xb1]⟩ 1 none ∈ nj_T0) (hst : Nat.ble ((st.map fun v => v.category).sum) 8 = true) (hf : Nat.ble 1 rm.frames = true) (hlo : Nat.ble 20 rm.locals = true) (k : nj_V G ad kc ks pc' ls st hp) : nj_V G ad kc ks pc ls (.ref q :: st) hp := by
  obtain ⟨⟨p, l, e, R, s, m⟩, ⟨args, below, meth, c, Q⟩, ⟨D, dT, A, sA⟩⟩ := G
  obtain ⟨hx, hb, hml, hown, hts, hR, ⟨hK, hNe, hSt⟩, hlk, hA⟩ := C
  intro H locs lm hsa hP hD hS hL
  subst hR
  obtain ⟨n1, h, h2⟩ := hd
  have e1 : n1 = 3 := by omega
  subst e1; subst h1
  have hst := Nat.le_of_ble_eq_true hst
  have hlo := Nat.le_of_ble_eq_true hlo
  exact W.objInit hx hb hown (hts _ hw) (hts _ hw2) (hts _ hw3) rfl hL.1 rfl h (Nat.le_of_ble_eq_true hf) (by
    have h8 := nj_cats ad st
    have h9 := lv_room (m := m) (pc := pc) (ls := lm) (rest := List.map (nj_pv ad) (.ref q :: st)) (st := st.map (nj_pv ad)) (by rw [h8]; exact hst)
    omega) (k H locs lm hsa hP hD hS hL)
end NjAlloc
end
section
/-! contracts of constructors, and their calls -/
def nj_PreA (D : va_G) (dT : Nat → ClassId) (sA ad : Nat → Nat) (sz : Nat) (hp : List va_E) (as : List Value) : Array Value → State → Prop := fun v U => nj_Pre D dT sA ad sz hp as v U ∧ nj_AO U
def nj_PostA (D : va_G) (dT : Nat → ClassId) (A : Nat → Prop) (ad : Nat → Nat) (n : Nat) (hp' : List va_E) : Array Value → State → Outcome → State → Prop := fun _ st oc t => oc = .returned none ∧ (∃ ad', nj_ag n ad ad' ∧ va_P D nj_cls (nj_pw ad' dT hp') t.heap ∧ va_D A (nj_pw ad' dT hp')) ∧ va_F A st t
def nj_ConA (y : MethodName) (cc : ByteArray) (nL : Nat) (rm : Room) (mc ms : Nat) (hp : List va_E) (as : List Value) (hp' : List va_E) : Prop :=
  ∀ (l : Launch) (D : va_G) (dT : Nat → ClassId) (sA ad : Nat → Nat) (sz : Nat), Met l y (.code y cc nL none :: nj_T0) rm (nj_PreA D dT sA ad sz hp as) (nj_PostA D dT (nj_A ad hp.length sz) ad hp.length hp') mc ms (nj_A ad hp.length sz)
def nj_RtA (G : nj_G) (n : Nat) (ad : Nat → Nat) (mc ms : Nat) (hp' : List va_E) : Prop :=
  match G with
  | ((p, l, e, R, s, m), (args, below, meth, c, Q), (D, dT, A, sA)) => Q = MQ below (nj_PostA D dT A ad n hp') args s mc ms A ∧ meth.sig.returnType = none
theorem nj_blindA (D : va_G) (dT : Nat → ClassId) (sA ad : Nat → Nat) (sz : Nat) (hp : List va_E) (as : List Value) : FrameBlind (nj_PreA D dT sA ad sz hp as) := fun a U g mk q => ⟨nj_blind D dT sA ad sz hp as a U g mk q.1, q.2.moved (u := U) (U := U.calling g mk a) (Vm.Alike.refl U.vm)⟩
theorem nj_conA {y : MethodName} {cc : ByteArray} {nL : Nat} {rm : Room} {mc ms : Nat} {hp : List va_E} {as : List Value} {hp' : List va_E} (hy : plainName y.cls = true) (hyn : y.name = "<init>") (k : Nat) (hen : (nj_en as).length + k = nL)
    (body : ∀ (G : nj_G) (ad : Nat → Nat), nj_CA G cc nL y.cls rm → nj_RtA G hp.length ad mc ms hp' → nj_V G ad 0 0 0 (nj_en as ++ List.replicate k none) [] hp) : nj_ConA y cc nL rm mc ms hp as hp' := by
  intro l D dT sA ad sz
  refine Met.ofW (cc := cc) (maxL := nL) (ret := none) hy rfl ?_
  intro p e s m args below meth c s₁ B hml hv
  obtain ⟨⟨rfl, hsz, hI, hP, hD0, hsa⟩, hAO⟩ := hv
  have hts := atoms_spec (ws := .code y cc nL none :: nj_T0) B.pre
  have hown : s.vm.findClass y.cls = some m.cls := findClass_of_methodNamed B.named
  have hin : meth.name = "<init>" := ((name_of_methodNamed B.named B.method).1).trans hyn
  subst hsz
  have h := body ((p, l, e, rm, s, m), (((as.map (nj_pv ad)).toArray), below, meth, c, MQ below (nj_PostA D dT (nj_A ad hp.length s.heap.size) ad hp.length hp') ((as.map (nj_pv ad)).toArray) s mc ms (nj_A ad hp.length s.heap.size)), (D, dT, nj_A ad hp.length s.heap.size, sA)) ad
    ⟨⟨B.exec, B.bytes, hml, hown, fun w hw => hts w (List.mem_cons_of_mem _ hw), rfl, hI, B.notSynchronized, fun q hq => Or.inr hq⟩, hAO, hin⟩ ⟨rfl, B.returns⟩
  have hle : (lg_sl (as.map (nj_pv ad))).length ≤ nL := by rw [nj_en_len]; omega
  have hl := lv_entry (as.map (nj_pv ad)) (n := nL) hle
  rw [lg_entry_eq]
  refine h s.heap [] _ hsa hP ?_ va_S.rf ⟨by rw [hml]; exact hl.1, hl.2.1, fun j v hv => ?_⟩
  · refine ⟨hD0.1, fun i q hq => ?_⟩
    obtain ⟨e0, h1, rfl⟩ := nj_pw_of hq
    exact Or.inl ⟨i, (List.getElem?_eq_some_iff.mp h1).1, rfl⟩
  · have h1 := nj_en_of ad as 0 j v (nj_en_none as k j v hv)
    rw [Nat.zero_add] at h1
    exact hl.2.2 _ h1
theorem vr_vretA {G : nj_G} {cc : ByteArray} {nL : Nat} {own : String} {rm : Room} {ad ad0 : Nat → Nat} {n kc ks pc pc' : Nat} {ls : List (Option Value)} {hp : List va_E} (C : nj_C G cc nL own rm) (hq : nj_RtA G n ad0 kc ks hp) (hag : nj_ag n ad0 ad) (hd : nj_dc cc pc .return_ pc') (h1 : pc + 1 = pc') : nj_V G ad kc ks pc ls [] hp := by
  obtain ⟨⟨p, l, e, R, s, m⟩, ⟨args, below, meth, c, Q⟩, ⟨D, dT, A, sA⟩⟩ := G
  obtain ⟨hx, hb, hml, hown, hts, hR, ⟨hK, hNe, hSt⟩, hlk, hA⟩ := C
  obtain ⟨hq, hr⟩ := hq
  intro H locs lm hsa hP hD hS hL
  subst hq
  obtain ⟨n1, h, h2⟩ := hd
  have e1 : n1 = 1 := by omega
  subst e1
  exact W.vret hx hb hr (fun t ht hW => ⟨rfl, ⟨ad, hag, by rw [ht]; exact hP, hD⟩, hS.F ht⟩) hS.2.2 h hlk
def nj_is2 (is : List Nat) (n e : Nat) : List Nat := is ++ List.range' n e
def nj_res (hp : List va_E) (is : List Nat) (e : Nat) (hpc' : List va_E) : List va_E := nj_patch (hp ++ List.replicate e (.inr (0, []))) (nj_is2 is hp.length e) (hpc'.map (nj_re (nj_is2 is hp.length e)))
section NjCtor
variable {D : va_G} {dT : Nat → ClassId} {A : Nat → Prop} {ad ad1 : Nat → Nat} {hp hpc hpc' : List va_E} {is : List Nat} {x : Nat} {H H1 : Heap}
theorem nj_rn_l {is : List Nat} {n x j i : Nat} (h : is[j]? = some i) (hj : j < 1000) : nj_rn (nj_is2 is n x) j = i := by
  have h1 : j < is.length := (List.getElem?_eq_some_iff.mp h).1
  exact nj_rn_at (by rw [nj_is2, List.getElem?_append_left h1]; exact h) hj
theorem nj_rn_r {is : List Nat} {n x j : Nat} (h : j < x) (hj : is.length + j < 1000) : nj_rn (nj_is2 is n x) (is.length + j) = n + j := by
  refine nj_rn_at ?_ hj
  rw [nj_is2, List.getElem?_append_right (by omega), show is.length + j - is.length = j by omega, List.getElem?_range' h]
  simp
theorem nj_is2_at {is : List Nat} {n x j k : Nat} (h : (nj_is2 is n x)[j]? = some k) : (j < is.length ∧ is[j]? = some k) ∨ (is.length ≤ j ∧ j < is.length + x ∧ k = n + (j - is.length)) := by
  by_cases hj : j < is.length
  · rw [nj_is2, List.getElem?_append_left hj] at h
    exact Or.inl ⟨hj, h⟩
  · have hl : j < is.length + x := by
      have := (List.getElem?_eq_some_iff.mp h).1
      simpa [nj_is2] using this
    rw [nj_is2, List.getElem?_append_right (by omega), List.getElem?_range' (by omega)] at h
    simp at h
    exact Or.inr ⟨by omega, hl, by omega⟩
/-- the addresses behind the call -/
def nj_ad2 (ad ad1 : Nat → Nat) (n N x : Nat) : Nat → Nat := fun k => if n ≤ k ∧ k < n + x then ad1 (N + (k - n)) else ad k
theorem nj_grown (hP : va_P D nj_cls (nj_pw ad dT hp) H) (hD : va_D A (nj_pw ad dT hp)) (hemb : nj_emb hp is hpc) (hn : va_nd (nj_is2 is hp.length x) = true) (hl : hp.length + x < 1000) (hlc : is.length + x < 1000) (hw : hp.all (nj_we hp.length) = true) (hwc : hpc'.all (nj_we (is.length + x)) = true) (hl2 : hpc'.length = is.length + x)
    (hag : nj_ag hpc.length (fun k => ad (nj_rn is k)) ad1) (hPt : va_P D nj_cls (nj_pw ad1 dT hpc') H1) (hDt : va_D (nj_A (fun k => ad (nj_rn is k)) hpc.length H.size) (nj_pw ad1 dT hpc')) (hsub : ∀ q, nj_A (fun k => ad (nj_rn is k)) hpc.length H.size q → A q)
    (hk : ∀ q : Nat, q < H.size → ¬ nj_A (fun k => ad (nj_rn is k)) hpc.length H.size q → H1[q]? = H[q]?) :
    nj_ag hp.length ad (nj_ad2 ad ad1 hp.length is.length x) ∧ va_P D nj_cls (nj_pw (nj_ad2 ad ad1 hp.length is.length x) dT (nj_res hp is x hpc')) H1 ∧ va_D A (nj_pw (nj_ad2 ad ad1 hp.length is.length x) dT (nj_res hp is x hpc')) := by
  have hil := nj_emb_len hemb
  have at1 : ∀ (j : Nat), j < hpc.length → ∃ k, is[j]? = some k ∧ (∃ e, hp[k]? = some e) ∧ nj_rn is j = k ∧ k < hp.length := by
    intro j hj
    obtain ⟨k, h1, h2⟩ := nj_emb_at hemb (List.getElem?_eq_getElem hj)
    exact ⟨k, h1, ⟨_, h2⟩, nj_rn_at h1 (by omega), (List.getElem?_eq_some_iff.mp h2).1⟩
  have hagn : nj_ag hp.length ad (nj_ad2 ad ad1 hp.length is.length x) := by
    intro k hk
    show (if _ then _ else _) = _
    rw [if_neg (by omega)]
  have hnew : ∀ j, j < x → nj_ad2 ad ad1 hp.length is.length x (hp.length + j) = ad1 (is.length + j) := by
    intro j hj
    show (if _ then _ else _) = _
    rw [if_pos (by omega), show hp.length + j - hp.length = j by omega]
  have hcomp : nj_ag (is.length + x) ad1 (fun k => nj_ad2 ad ad1 hp.length is.length x (nj_rn (nj_is2 is hp.length x) k)) := by
    intro k hk
    show nj_ad2 ad ad1 hp.length is.length x (nj_rn (nj_is2 is hp.length x) k) = ad1 k
    rcases hk with hk | hk
    · by_cases hk2 : k < is.length
      · obtain ⟨i, g1, -, g3, g4⟩ := at1 k (by omega)
        rw [nj_rn_l g1 (by omega), hagn i (Or.inl g4), hag k (Or.inl (by omega))]
        show ad i = ad (nj_rn is k)
        rw [g3]
      · rw [show k = is.length + (k - is.length) by omega, nj_rn_r (by omega) (by omega), hnew _ (by omega)]
    · have e1 : nj_rn (nj_is2 is hp.length x) k = k := by rw [nj_rn, if_neg (by omega)]
      rw [e1, hagn k (Or.inr hk), hag k (Or.inr hk)]
      show ad k = ad (nj_rn is k)
      rw [nj_rn, if_neg (by omega)]
  have hlen : (nj_res hp is x hpc').length = hp.length + x := by simp [nj_res, nj_patch_len]
  have hbig : ∀ j, j < x → H.size ≤ ad1 (is.length + j) := by
    intro j hj
    have hj2 : hpc'[is.length + j]? = some hpc'[is.length + j] := List.getElem?_eq_getElem (by omega)
    rcases hDt.2 _ _ (nj_pw_at (ad := ad1) (dT := dT) hj2) with ⟨i, h1, h2⟩ | h2
    · exfalso
      have hi2 : hpc'[i]? = some hpc'[i] := List.getElem?_eq_getElem (by omega)
      have h3 : ad1 i = ad (nj_rn is i) := hag i (Or.inl h1)
      have := hDt.1 _ _ _ _ (nj_pw_at (ad := ad1) (dT := dT) hj2) (nj_pw_at (ad := ad1) (dT := dT) hi2) (by rw [h3]; exact h2)
      omega
    · exact h2
  refine ⟨hagn, fun k q hq => ?_, ?_⟩
  · obtain ⟨e0, h1, rfl⟩ := nj_pw_of hq
    have hk1 : k < hp.length + x := by rw [← hlen]; exact (List.getElem?_eq_some_iff.mp h1).1
    by_cases hm : k ∈ nj_is2 is hp.length x
    · obtain ⟨j, hj⟩ := List.getElem?_of_mem hm
      have hj2 : j < is.length + x := by
        have := (List.getElem?_eq_some_iff.mp hj).1
        simpa [nj_is2] using this
      have hj3 : hpc'[j]? = some hpc'[j] := List.getElem?_eq_getElem (by omega)
      have h4 := nj_patch_in (nj_is2 is hp.length x) (hpc'.map (nj_re (nj_is2 is hp.length x))) (hp ++ List.replicate x (.inr (0, []))) j k _ hn hj (by rw [List.getElem?_map, hj3]; rfl) (by simp; omega)
      have h5 : some (nj_re (nj_is2 is hp.length x) hpc'[j]) = some e0 := h4.symm.trans h1
      cases h5
      have h6 := hPt j _ (nj_pw_at hj3)
      have h7 := nj_we_ag (ad' := fun k => nj_ad2 ad ad1 hp.length is.length x (nj_rn (nj_is2 is hp.length x) k)) hcomp (List.all_eq_true.mp hwc _ (List.mem_of_getElem? hj3)) h6
      rw [nj_pe_re]
      have h8 : nj_ad2 ad ad1 hp.length is.length x k = ad1 j := by
        have h9 := hcomp j (Or.inl hj2)
        have h10 : nj_rn (nj_is2 is hp.length x) j = k := nj_rn_at hj (by omega)
        simp only [h10] at h9
        exact h9
      rw [h8]
      exact h7
    · have hkn : k < hp.length := by
        rcases Nat.lt_or_ge k hp.length with h | h
        · exact h
        · exfalso
          apply hm
          rw [nj_is2]
          refine List.mem_append_right _ (List.mem_range'.mpr ⟨k - hp.length, by omega, by omega⟩)
      have h1' : (nj_patch (hp ++ List.replicate x (.inr (0, []))) (nj_is2 is hp.length x) (hpc'.map (nj_re (nj_is2 is hp.length x))))[k]? = some e0 := h1
      rw [nj_patch_out _ _ _ _ hm, List.getElem?_append_left hkn] at h1'
      have h2 := hP k _ (nj_pw_at h1')
      have h3 : va_at D nj_cls (ad k, nj_pe ad dT e0) H1 := by
        refine h2.kept (hk _ h2.lt (fun z => ?_))
        rcases z with ⟨j, hj, h5⟩ | z
        · obtain ⟨i, a1, ⟨e1, a2⟩, a3, a4⟩ := at1 j hj
          simp only [a3] at h5
          have := hD.1 k i _ _ (nj_pw_at h1') (nj_pw_at a2) h5
          subst this
          apply hm
          rw [nj_is2]
          exact List.mem_append_left _ (List.mem_of_getElem? a1)
        · exact Nat.not_le.mpr h2.lt z
      have h4 := nj_we_ag (ad' := nj_ad2 ad ad1 hp.length is.length x) hagn (List.all_eq_true.mp hw _ (List.mem_of_getElem? h1')) h3
      rw [hagn k (Or.inl hkn)]
      exact h4
  · have adr : ∀ k, k < hp.length + x → (k < hp.length ∧ nj_ad2 ad ad1 hp.length is.length x k = ad k) ∨ (hp.length ≤ k ∧ nj_ad2 ad ad1 hp.length is.length x k = ad1 (is.length + (k - hp.length))) := by
      intro k hk2
      rcases Nat.lt_or_ge k hp.length with h | h
      · exact Or.inl ⟨h, hagn k (Or.inl h)⟩
      · refine Or.inr ⟨h, ?_⟩
        have := hnew (k - hp.length) (by omega)
        rw [show hp.length + (k - hp.length) = k by omega] at this
        exact this
    have old : ∀ k, k < hp.length → ad k < H.size ∧ A (ad k) := by
      intro k hk2
      have h2 := nj_pw_at (ad := ad) (dT := dT) (List.getElem?_eq_getElem hk2)
      exact ⟨(hP k _ h2).lt, hD.2 k _ h2⟩
    refine ⟨fun i j p q hi hj hpq => ?_, fun k q hq => ?_⟩
    · obtain ⟨e1, h1, rfl⟩ := nj_pw_of hi
      obtain ⟨e2, h2, rfl⟩ := nj_pw_of hj
      have hi1 : i < hp.length + x := by rw [← hlen]; exact (List.getElem?_eq_some_iff.mp h1).1
      have hj1 : j < hp.length + x := by rw [← hlen]; exact (List.getElem?_eq_some_iff.mp h2).1
      simp only at hpq
      rcases adr i hi1 with ⟨a1, b1⟩ | ⟨a1, b1⟩ <;> rcases adr j hj1 with ⟨a2, b2⟩ | ⟨a2, b2⟩
      · rw [b1, b2] at hpq
        exact hD.1 i j _ _ (nj_pw_at (ad := ad) (dT := dT) (List.getElem?_eq_getElem a1)) (nj_pw_at (ad := ad) (dT := dT) (List.getElem?_eq_getElem a2)) hpq
      · rw [b1, b2] at hpq
        have := (old i a1).1
        have := hbig (j - hp.length) (by omega)
        omega
      · rw [b1, b2] at hpq
        have := (old j a2).1
        have := hbig (i - hp.length) (by omega)
        omega
      · rw [b1, b2] at hpq
        have g1 : hpc'[is.length + (i - hp.length)]? = some _ := List.getElem?_eq_getElem (by omega)
        have g2 : hpc'[is.length + (j - hp.length)]? = some _ := List.getElem?_eq_getElem (by omega)
        have := hDt.1 _ _ _ _ (nj_pw_at (ad := ad1) (dT := dT) g1) (nj_pw_at (ad := ad1) (dT := dT) g2) hpq
        omega
    · obtain ⟨e1, h1, rfl⟩ := nj_pw_of hq
      have hk1 : k < hp.length + x := by rw [← hlen]; exact (List.getElem?_eq_some_iff.mp h1).1
      rcases adr k hk1 with ⟨a1, b1⟩ | ⟨a1, b1⟩
      · simp only [b1]; exact (old k a1).2
      · simp only [b1]
        have g1 : hpc'[is.length + (k - hp.length)]? = some _ := List.getElem?_eq_getElem (by omega)
        exact hsub _ (hDt.2 _ _ (nj_pw_at (ad := ad1) (dT := dT) g1))
end NjCtor
section NjCtorRows
variable {G : nj_G} {cc : ByteArray} {nL : Nat} {own : String} {rm : Room} {ad : Nat → Nat} {kc ks pc pc' : Nat} {ls : List (Option Value)} {hp : List va_E}
variable {y : MethodName} {cy : ByteArray} {nLy n idx mc ms : Nat} {rmc : Room} {hpc hpc' : List va_E}
def nj_RoA (rmc rm : Room) (nLy mc ms : Nat) : Prop := rmc.cells = mc ∧ rmc.slots = ms ∧ Nat.ble (rmc.frames + 1) rm.frames = true ∧ Nat.ble (8 + (nLy + 11) + rmc.locals) rm.locals = true
theorem vr_ctorI (is : List Nat) (x : Nat) (as st : List Value) {st0 : List Value} {hp2 : List va_E} (C : nj_C G cc nL own rm) (hAO : nj_AO G.1.2.2.2.2.1) (hd : nj_dc cc pc (.invokespecial idx) pc') (h1 : pc + 3 = pc') (hlk : .methodLink own idx y ∈ nj_T0) (hy1 : .instanceMethod y ∈ nj_T0) (hy2 : .initialized y.cls ∈ nj_T0) (hy3 : .code y cy nLy none ∈ nj_T0) (hyn : y.name = "<init>") (hy5 : y.cls ≠ "java/lang/invoke/MethodHandle" ∧ y.cls ≠ "java/lang/invoke/VarHandle" ∧ (parseMethodDescriptor y.desc).map (fun d => d.parameters.length) = some n)
    (hM : nj_ConA y cy nLy rmc mc ms hpc (.ref 0 :: as) hpc') (hE : nj_Em hp is hpc) (hnd : va_nd (nj_is2 is hp.length x) = true) (hl : Nat.blt (hp.length + x) 1000 = true) (hlc : Nat.blt (is.length + x) 1000 = true) (hl2 : hpc'.length = is.length + x) (hwf : nj_wf hp.length ls st hp = true) (hwc : hpc'.all (nj_we (is.length + x)) = true) (hna : as.length = n) (hst : Nat.ble ((st.map fun v => v.category).sum) 8 = true) (hrm : nj_RoA rmc rm nLy mc ms) (hkc : Nat.ble (kc + mc) rm.cells = true) (hks : Nat.ble (ks + ms) rm.slots = true)
    (hsk : (as.map (nj_pv (nj_rn is))).reverse ++ .ref (nj_rn is 0) :: st = st0) (hres : nj_res hp is x hpc' = hp2) (k : ∀ ad', nj_ag hp.length ad ad' → nj_V G ad' (kc + mc) (ks + ms) pc' ls st hp2) : nj_V G ad kc ks pc ls st0 hp := by
  obtain ⟨⟨p, l, e, R, s, m⟩, ⟨args, below, meth, c, Q⟩, ⟨D, dT, A, sA⟩⟩ := G
  obtain ⟨hx, hb, hml, hown, hts, hR, ⟨hK, hNe, hSt⟩, hlk0, hA⟩ := C
  intro H locs lm hsa hP hD hS hL
  subst hR; subst hsk; subst hres
  obtain ⟨n1, h, h2⟩ := hd
  have e1 : n1 = 3 := by omega
  subst e1; subst h1
  obtain ⟨r1, r2, r3, r4⟩ := hrm
  obtain ⟨hemb, hn0, hlen⟩ := hE
  have hlen := Nat.le_of_ble_eq_true hlen
  have hl : hp.length + x < 1000 := by simpa [Nat.blt_eq] using hl
  have hlc : is.length + x < 1000 := by simpa [Nat.blt_eq] using hlc
  simp only [nj_wf, Bool.and_eq_true] at hwf
  obtain ⟨f1, f2, f3⟩ := hwf
  obtain ⟨hs1, hsub⟩ := nj_start (as := .ref 0 :: as) hK hNe hSt hA hsa hP hD hS hemb hn0 hlen
  have hG : GoodIn nj_T0 (.code y cy nLy none :: nj_T0) := nj_goodIn fun w hw => by
    rcases List.mem_cons.mp hw with rfl | hw
    · exact hy3
    · exact hw
  have cw : CallB R s args own idx y cy nLy none (.code y cy nLy none :: nj_T0) rmc mc ms n ∧ y.name = "<init>" ∧ (Cond.instanceMethod y).before args s = true := cwI n hts hG rfl r1 r2 (hts _ hy2) (hts _ hlk) (hts _ hy1) hyn hy5 ⟨Nat.le_of_ble_eq_true r3, Nat.le_of_ble_eq_true r4⟩
  have hk : List.map (nj_pv ad) ((as.map (nj_pv (nj_rn is))).reverse ++ .ref (nj_rn is 0) :: st) = (as.map (nj_pv (fun k => ad (nj_rn is k)))).reverse ++ .ref (ad (nj_rn is 0)) :: st.map (nj_pv ad) := nj_stk ad is as (.ref (nj_rn is 0) :: st)
  rw [hk]
  have hr := va_runI (H := H) (locs := locs) (cells := kc) (slots := ks) (below := below) (meth := meth) (e := e) (R := R) (As := as.map (nj_pv (fun k => ad (nj_rn is k)))) (rest := st.map (nj_pv ad)) (b := ad (nj_rn is 0)) (g := F0 m pc lm ((as.map (nj_pv (fun k => ad (nj_rn is k)))).reverse ++ .ref (ad (nj_rn is 0)) :: st.map (nj_pv ad))) ⟨hx, hb, hml, hown, hts⟩ (hM l D dT sA (fun k => ad (nj_rn is k)) H.size) cw ⟨nj_blindA _ _ _ _ _ _ _, fun U hU hW => ⟨hs1 U hU hW, hAO.moved hW.alike⟩⟩ rfl (by simpa using hna) (hL.1.trans hml) rfl (lv_room (by rw [nj_cats]; exact Nat.le_of_ble_eq_true hst)) h ⟨Nat.le_of_ble_eq_true hkc, Nat.le_of_ble_eq_true hks⟩
  intro T hT X
  obtain ⟨v, st₀, t, T', L, h0, X', hLo, e1, e2, ⟨hv, ⟨ad1, hag, hPt, hDt⟩, hz, hkk⟩, go⟩ := hr T hT X
  cases hv
  rw [h0] at hz hkk
  obtain ⟨g1, g2, g3⟩ := nj_grown (H1 := t.heap) hP hD hemb hnd hl hlc f3 hwc hl2 hag hPt hDt hsub hkk
  have h9 := k _ g1 T'.heap (locs ++ L) lm (fun j => by rw [g1 (1000 + j) (Or.inr (by omega))]; exact hsa j) (by rw [e1]; exact g2) g3
    ⟨Nat.le_trans hS.1 (by rw [e1]; exact hz), fun q h1 h2 => by rw [e1, hkk q (Nat.lt_of_lt_of_le h1 hS.1) (fun z => h2 (hsub q z))]; exact hS.2.1 q h1 h2, fun q hq => by
      rcases List.mem_append.mp hq with h | h
      · exact hS.2.2 q h
      · exact hsub _ (hLo q h)⟩ (nj_lm_ag g1 f1 hL)
  rw [nj_st_ag g1 f2] at h9
  obtain ⟨t2, a1, b1⟩ := h9 T' rfl X'
  exact ⟨t2, go t2 a1, b1⟩
theorem vr_ctorN {host : String} (is : List Nat) (x : Nat) (as st : List Value) {st0 : List Value} {hp2 : List va_E} (C : nj_C G cc nL own rm) (hAO : nj_AO G.1.2.2.2.2.1) (hd : nj_dc cc pc (.invokespecial idx) pc') (h1 : pc + 3 = pc') (hlk : va_Nw (.methodLinkNest own idx y host) G.1.2.2.2.2.1) (hy1 : .instanceMethod y ∈ nj_T0) (hy2 : .initialized y.cls ∈ nj_T0) (hy3 : .code y cy nLy none ∈ nj_T0) (hyn : y.name = "<init>") (hy5 : y.cls ≠ "java/lang/invoke/MethodHandle" ∧ y.cls ≠ "java/lang/invoke/VarHandle" ∧ (parseMethodDescriptor y.desc).map (fun d => d.parameters.length) = some n)
    (hM : nj_ConA y cy nLy rmc mc ms hpc (.ref 0 :: as) hpc') (hE : nj_Em hp is hpc) (hnd : va_nd (nj_is2 is hp.length x) = true) (hl : Nat.blt (hp.length + x) 1000 = true) (hlc : Nat.blt (is.length + x) 1000 = true) (hl2 : hpc'.length = is.length + x) (hwf : nj_wf hp.length ls st hp = true) (hwc : hpc'.all (nj_we (is.length + x)) = true) (hna : as.length = n) (hst : Nat.ble ((st.map fun v => v.category).sum) 8 = true) (hrm : nj_RoA rmc rm nLy mc ms) (hkc : Nat.ble (kc + mc) rm.cells = true) (hks : Nat.ble (ks + ms) rm.slots = true)
    (hsk : (as.map (nj_pv (nj_rn is))).reverse ++ .ref (nj_rn is 0) :: st = st0) (hres : nj_res hp is x hpc' = hp2) (k : ∀ ad', nj_ag hp.length ad ad' → nj_V G ad' (kc + mc) (ks + ms) pc' ls st hp2) : nj_V G ad kc ks pc ls st0 hp := by
  obtain ⟨⟨p, l, e, R, s, m⟩, ⟨args, below, meth, c, Q⟩, ⟨D, dT, A, sA⟩⟩ := G
  obtain ⟨hx, hb, hml, hown, hts, hR, ⟨hK, hNe, hSt⟩, hlk0, hA⟩ := C
  intro H locs lm hsa hP hD hS hL
  subst hR; subst hsk; subst hres
  obtain ⟨n1, h, h2⟩ := hd
  have e1 : n1 = 3 := by omega
  subst e1; subst h1
  obtain ⟨r1, r2, r3, r4⟩ := hrm
  obtain ⟨hemb, hn0, hlen⟩ := hE
  have hlen := Nat.le_of_ble_eq_true hlen
  have hl : hp.length + x < 1000 := by simpa [Nat.blt_eq] using hl
  have hlc : is.length + x < 1000 := by simpa [Nat.blt_eq] using hlc
  simp only [nj_wf, Bool.and_eq_true] at hwf
  obtain ⟨f1, f2, f3⟩ := hwf
  obtain ⟨hs1, hsub⟩ := nj_start (as := .ref 0 :: as) hK hNe hSt hA hsa hP hD hS hemb hn0 hlen
  have hG : GoodIn nj_T0 (.code y cy nLy none :: nj_T0) := nj_goodIn fun w hw => by
    rcases List.mem_cons.mp hw with rfl | hw
    · exact hy3
    · exact hw
  have cw : va_CN R s args own idx y host cy nLy none (.code y cy nLy none :: nj_T0) rmc mc ms n ∧ y.name = "<init>" ∧ (Cond.instanceMethod y).before args s = true := ⟨va_cnB n hts hG rfl r1 r2 hlk (hts _ hy2) hy5 ⟨Nat.le_of_ble_eq_true r3, Nat.le_of_ble_eq_true r4⟩, hyn, hts _ hy1⟩
  have hk : List.map (nj_pv ad) ((as.map (nj_pv (nj_rn is))).reverse ++ .ref (nj_rn is 0) :: st) = (as.map (nj_pv (fun k => ad (nj_rn is k)))).reverse ++ .ref (ad (nj_rn is 0)) :: st.map (nj_pv ad) := nj_stk ad is as (.ref (nj_rn is 0) :: st)
  rw [hk]
  have hr := va_runIN (H := H) (locs := locs) (cells := kc) (slots := ks) (below := below) (meth := meth) (e := e) (R := R) (As := as.map (nj_pv (fun k => ad (nj_rn is k)))) (rest := st.map (nj_pv ad)) (b := ad (nj_rn is 0)) (g := F0 m pc lm ((as.map (nj_pv (fun k => ad (nj_rn is k)))).reverse ++ .ref (ad (nj_rn is 0)) :: st.map (nj_pv ad))) ⟨hx, hb, hml, hown, hts⟩ (hM l D dT sA (fun k => ad (nj_rn is k)) H.size) cw ⟨nj_blindA _ _ _ _ _ _ _, fun U hU hW => ⟨hs1 U hU hW, hAO.moved hW.alike⟩⟩ rfl (by simpa using hna) (hL.1.trans hml) rfl (lv_room (by rw [nj_cats]; exact Nat.le_of_ble_eq_true hst)) h ⟨Nat.le_of_ble_eq_true hkc, Nat.le_of_ble_eq_true hks⟩
  intro T hT X
  obtain ⟨v, st₀, t, T', L, h0, X', hLo, e1, e2, ⟨hv, ⟨ad1, hag, hPt, hDt⟩, hz, hkk⟩, go⟩ := hr T hT X
  cases hv
  rw [h0] at hz hkk
  obtain ⟨g1, g2, g3⟩ := nj_grown (H1 := t.heap) hP hD hemb hnd hl hlc f3 hwc hl2 hag hPt hDt hsub hkk
  have h9 := k _ g1 T'.heap (locs ++ L) lm (fun j => by rw [g1 (1000 + j) (Or.inr (by omega))]; exact hsa j) (by rw [e1]; exact g2) g3
    ⟨Nat.le_trans hS.1 (by rw [e1]; exact hz), fun q h1 h2 => by rw [e1, hkk q (Nat.lt_of_lt_of_le h1 hS.1) (fun z => h2 (hsub q z))]; exact hS.2.1 q h1 h2, fun q hq => by
      rcases List.mem_append.mp hq with h | h
      · exact hS.2.2 q h
      · exact hsub _ (hLo q h)⟩ (nj_lm_ag g1 f1 hL)
  rw [nj_st_ag g1 f2] at h9
  obtain ⟨t2, a1, b1⟩ := h9 T' rfl X'
  exact ⟨t2, go t2 a1, b1⟩
end NjCtorRows
theorem nj_agt {n m : Nat} {a b c : Nat → Nat} (h1 : nj_ag n a b) (h2 : nj_ag m b c) (h : Nat.ble n m = true) : nj_ag n a c := fun k hk => by
  have := Nat.le_of_ble_eq_true h
  rw [h2 k (by omega), h1 k hk]
theorem nj_agr (n : Nat) (a : Nat → Nat) : nj_ag n a a := fun _ _ => rfl
theorem nj_neI {G : nj_G} {cc : ByteArray} {nL : Nat} {own : String} {rm : Room} (C : nj_C G cc nL own rm) : nj_Ne G.1.2.2.2.2.1 := by
  obtain ⟨⟨p, l, e, R, s, m⟩, ⟨args, below, meth, c, Q⟩, ⟨D, dT, A, sA⟩⟩ := G
  exact C.2.2.2.2.2.2.1.2.1
/-- one world under another order -/
def nj_eqv (a b : va_E) : Prop := a = b ∨ ∃ (t n : Nat) (f g : Nat → Option Nat), a = .inl (t, n, .inr (.inr (.inr (.inr f)))) ∧ b = .inl (t, n, .inr (.inr (.inr (.inr g)))) ∧ ∀ k, k < n → f k = g k
theorem nj_eqv_at {D : va_G} {dT : Nat → ClassId} {ad : Nat → Nat} {a b : va_E} {q : Nat} {H : Heap} (h : nj_eqv a b) (hat : va_at D nj_cls (q, nj_pe ad dT a) H) : va_at D nj_cls (q, nj_pe ad dT b) H := by
  rcases h with rfl | ⟨t, n, f, g, rfl, rfl, h⟩
  · exact hat
  · have e1 : vp_cell (dT t) (n, nj_px ad (.inr (.inr (.inr (.inr f))))) = vp_cell (dT t) (n, nj_px ad (.inr (.inr (.inr (.inr g))))) := by
      rw [nj_px, nj_px, vp_cell_q, vp_cell_q]
      exact nj_arrV _ _ (fun j hj => by rw [h j hj])
    have h2 : H[q]? = some (vp_cell (dT t) (n, nj_px ad (.inr (.inr (.inr (.inr f)))))) := hat
    show H[q]? = some _
    rw [h2, e1]
theorem vr_perm {G : nj_G} {ad : Nat → Nat} {kc ks pc : Nat} {ls ls0 : List (Option Value)} {st st0 : List Value} {hp hpL : List va_E} (is : List Nat) (hlen : is.length = hpL.length) (h1000 : Nat.ble is.length 1000 = true) (hn : va_nd is = true) (hc : ∀ (j : Nat) (e : va_E), hpL[j]? = some e → ∃ (k : Nat) (e' : va_E), is[j]? = some k ∧ hp[k]? = some e' ∧ nj_eqv e' (nj_re is e))
    (hls : ls.map (Option.map (nj_pv (nj_rn is))) = ls0) (hst : st.map (nj_pv (nj_rn is)) = st0) (k : nj_V G (fun k => ad (nj_rn is k)) kc ks pc ls st hpL) : nj_V G ad kc ks pc ls0 st0 hp := by
  obtain ⟨⟨p, l, e, R, s, m⟩, ⟨args, below, meth, c, Q⟩, ⟨D, dT, A, sA⟩⟩ := G
  intro H locs lm hsa hP hD hS hL
  subst hls; subst hst
  have h1000 := Nat.le_of_ble_eq_true h1000
  have key : ∀ (j : Nat) (e : va_E), hpL[j]? = some e → ∃ (k : Nat) (e' : va_E), is[j]? = some k ∧ hp[k]? = some e' ∧ nj_eqv e' (nj_re is e) ∧ nj_rn is j = k := by
    intro j e he
    obtain ⟨k, e', g1, g2, g3⟩ := hc j e he
    have hj : j < is.length := (List.getElem?_eq_some_iff.mp g1).1
    exact ⟨k, e', g1, g2, g3, nj_rn_at g1 (by omega)⟩
  have h := k H locs lm (fun j => by show ad (nj_rn is (1000 + j)) = sA j; rw [nj_rn, if_neg (by omega)]; exact hsa j) (fun j q hq => by
      obtain ⟨e0, g0, rfl⟩ := nj_pw_of hq
      obtain ⟨i, e', g1, g2, g3, g4⟩ := key j e0 g0
      have := nj_eqv_at g3 (hP i _ (nj_pw_at g2))
      rw [nj_pe_re] at this
      simp only [g4]
      exact this) (by
      refine ⟨fun i j x y hi hj hxy => ?_, fun j q hq => ?_⟩
      · obtain ⟨e1, g1, rfl⟩ := nj_pw_of hi
        obtain ⟨e2, g2, rfl⟩ := nj_pw_of hj
        obtain ⟨i1, e1', a1, b1, c1, d1⟩ := key i e1 g1
        obtain ⟨i2, e2', a2, b2, c2, d2⟩ := key j e2 g2
        simp only [d1, d2] at hxy
        have := hD.1 i1 i2 _ _ (nj_pw_at b1) (nj_pw_at b2) hxy
        subst this
        exact va_nd_inj is hn i j i1 a1 a2
      · obtain ⟨e1, g1, rfl⟩ := nj_pw_of hq
        obtain ⟨i1, e1', a1, b1, c1, d1⟩ := key j e1 g1
        simp only [d1]
        exact hD.2 i1 _ (nj_pw_at b1)) hS ⟨hL.1, hL.2.1, fun j v hv => by
      have := hL.2.2 j (nj_pv (nj_rn is) v) (by rw [List.getElem?_map, hv]; rfl)
      rw [nj_pv_pv] at this
      exact this⟩
  have e1 : st.map (nj_pv (fun k => ad (nj_rn is k))) = (st.map (nj_pv (nj_rn is))).map (nj_pv ad) := by
    rw [List.map_map]
    apply List.map_congr_left
    intro v _
    exact (nj_pv_pv _ _ v).symm
  rwa [e1] at h
end
section
theorem kw_int : Cond.arrayClass .int ∈ nj_T0 := nj_T0_in (List.mem_of_getElem? (i := 141) (by decide +kernel)) (by decide +kernel)
theorem kw_long : Cond.arrayClass .long ∈ nj_T0 := nj_T0_in (List.mem_of_getElem? (i := 865) (by decide +kernel)) (by decide +kernel)
theorem kw_byte : Cond.arrayClass .byte ∈ nj_T0 := nj_T0_in (List.mem_of_getElem? (i := 201) (by decide +kernel)) (by decide +kernel)
theorem kc_Law_7 : Cond.classLink "NobodyJoinsLaw" 7 "NobodyJoins" ∈ nj_T0 := nj_T0_in (List.mem_of_getElem? (i := 82) (by decide +kernel)) (by decide +kernel)
theorem kc_Nj_9 : Cond.classLink "NobodyJoins" 9 "NobodyJoins$Row" ∈ nj_T0 := nj_T0_in (List.mem_of_getElem? (i := 90) (by decide +kernel)) (by decide +kernel)
theorem kc_Nj_15 : Cond.classLink "NobodyJoins" 15 "NobodyJoins$Text" ∈ nj_T0 := nj_T0_in (List.mem_of_getElem? (i := 92) (by decide +kernel)) (by decide +kernel)
theorem kc_Nj_21 : Cond.classLink "NobodyJoins" 21 "NobodyJoins$Club" ∈ nj_T0 := nj_T0_in (List.mem_of_getElem? (i := 94) (by decide +kernel)) (by decide +kernel)
theorem kc_Nj_35 : Cond.classLink "NobodyJoins" 35 "NobodyJoins$Reader" ∈ nj_T0 := nj_T0_in (List.mem_of_getElem? (i := 143) (by decide +kernel)) (by decide +kernel)
theorem kc_Nj_42 : Cond.classLink "NobodyJoins" 42 "NobodyJoins$Orders" ∈ nj_T0 := nj_T0_in (List.mem_of_getElem? (i := 156) (by decide +kernel)) (by decide +kernel)
theorem kc_Law_10 : Cond.classLink "NobodyJoinsLaw" 10 "NobodyJoinsModel" ∈ nj_T0 := nj_T0_in (List.mem_of_getElem? (i := 789) (by decide +kernel)) (by decide +kernel)
theorem ki_Nj : Cond.instantiable "NobodyJoins" 12 ∈ nj_T0 := nj_T0_in (List.mem_of_getElem? (i := 83) (by decide +kernel)) (by decide +kernel)
theorem ki_Club : Cond.instantiable "NobodyJoins$Club" 9 ∈ nj_T0 := nj_T0_in (List.mem_of_getElem? (i := 95) (by decide +kernel)) (by decide +kernel)
theorem ki_Reader : Cond.instantiable "NobodyJoins$Reader" 2 ∈ nj_T0 := nj_T0_in (List.mem_of_getElem? (i := 144) (by decide +kernel)) (by decide +kernel)
theorem ki_Orders : Cond.instantiable "NobodyJoins$Orders" 2 ∈ nj_T0 := nj_T0_in (List.mem_of_getElem? (i := 157) (by decide +kernel)) (by decide +kernel)
theorem ki_Row : Cond.instantiable "NobodyJoins$Row" 2 ∈ nj_T0 := nj_T0_in (List.mem_of_getElem? (i := 169) (by decide +kernel)) (by decide +kernel)
theorem ki_Text : Cond.instantiable "NobodyJoins$Text" 2 ∈ nj_T0 := nj_T0_in (List.mem_of_getElem? (i := 187) (by decide +kernel)) (by decide +kernel)
theorem ki_Md : Cond.instantiable "NobodyJoinsModel" 23 ∈ nj_T0 := nj_T0_in (List.mem_of_getElem? (i := 790) (by decide +kernel)) (by decide +kernel)
theorem kn_Nj : Cond.initialized "NobodyJoins" ∈ nj_T0 := nj_T0_in (List.mem_of_getElem? (i := 71) (by decide +kernel)) (by decide +kernel)
theorem kn_Club : Cond.initialized "NobodyJoins$Club" ∈ nj_T0 := nj_T0_in (List.mem_of_getElem? (i := 72) (by decide +kernel)) (by decide +kernel)
theorem kn_Reader : Cond.initialized "NobodyJoins$Reader" ∈ nj_T0 := nj_T0_in (List.mem_of_getElem? (i := 73) (by decide +kernel)) (by decide +kernel)
theorem kn_Orders : Cond.initialized "NobodyJoins$Orders" ∈ nj_T0 := nj_T0_in (List.mem_of_getElem? (i := 74) (by decide +kernel)) (by decide +kernel)
theorem kn_Row : Cond.initialized "NobodyJoins$Row" ∈ nj_T0 := nj_T0_in (List.mem_of_getElem? (i := 75) (by decide +kernel)) (by decide +kernel)
theorem kn_Text : Cond.initialized "NobodyJoins$Text" ∈ nj_T0 := nj_T0_in (List.mem_of_getElem? (i := 76) (by decide +kernel)) (by decide +kernel)
theorem kn_Md : Cond.initialized "NobodyJoinsModel" ∈ nj_T0 := nj_T0_in (List.mem_of_getElem? (i := 77) (by decide +kernel)) (by decide +kernel)
theorem kt_Club : ∀ k, k < 9 → parseFieldDescriptor (nj_FClub k).2.2.1 = some (nj_tClub k) := by decide +kernel
theorem kt_Orders : ∀ k, k < 2 → parseFieldDescriptor (nj_FOrders k).2.2.1 = some (nj_tOrders k) := by decide +kernel
theorem kt_Reader : ∀ k, k < 2 → parseFieldDescriptor (nj_FReader k).2.2.1 = some (nj_tReader k) := by decide +kernel
theorem kt_Row : ∀ k, k < 2 → parseFieldDescriptor (nj_FRow k).2.2.1 = some (nj_tRow k) := by decide +kernel
theorem kt_Text : ∀ k, k < 2 → parseFieldDescriptor (nj_FText k).2.2.1 = some (nj_tText k) := by decide +kernel
theorem kt_Nj : ∀ k, k < 12 → parseFieldDescriptor (nj_FNj k).2.2.1 = some (nj_tNj k) := by decide +kernel
theorem kt_Md : ∀ k, k < 23 → parseFieldDescriptor (nj_FMd k).2.2.1 = some (nj_tMd k) := by decide +kernel
theorem ko_Nj : Cond.methodLink "NobodyJoins" 3 Lib.objectInit ∈ nj_T0 := nj_T0_in (List.mem_of_getElem? (i := 87) (by decide +kernel)) (by decide +kernel)
theorem ko_Club : Cond.methodLink "NobodyJoins$Club" 3 Lib.objectInit ∈ nj_T0 := nj_T0_in (List.mem_of_getElem? (i := 99) (by decide +kernel)) (by decide +kernel)
theorem ko_Reader : Cond.methodLink "NobodyJoins$Reader" 3 Lib.objectInit ∈ nj_T0 := nj_T0_in (List.mem_of_getElem? (i := 148) (by decide +kernel)) (by decide +kernel)
theorem ko_Orders : Cond.methodLink "NobodyJoins$Orders" 3 Lib.objectInit ∈ nj_T0 := nj_T0_in (List.mem_of_getElem? (i := 161) (by decide +kernel)) (by decide +kernel)
theorem ko_Row : Cond.methodLink "NobodyJoins$Row" 3 Lib.objectInit ∈ nj_T0 := nj_T0_in (List.mem_of_getElem? (i := 173) (by decide +kernel)) (by decide +kernel)
theorem ko_Text : Cond.methodLink "NobodyJoins$Text" 3 Lib.objectInit ∈ nj_T0 := nj_T0_in (List.mem_of_getElem? (i := 191) (by decide +kernel)) (by decide +kernel)
theorem ko_Md : Cond.methodLink "NobodyJoinsModel" 1 Lib.objectInit ∈ nj_T0 := nj_T0_in (List.mem_of_getElem? (i := 794) (by decide +kernel)) (by decide +kernel)
theorem kx_i : Cond.instanceMethod Lib.objectInit ∈ nj_T0 := nj_T0_in (List.mem_of_getElem? (i := 88) (by decide +kernel)) (by decide +kernel)
theorem kx_c : Cond.code Lib.objectInit ⟨#[0xb1]⟩ 1 none ∈ nj_T0 := nj_T0_in (List.mem_of_getElem? (i := 89) (by decide +kernel)) (by decide +kernel)
theorem kx_Nj_init_i : Cond.instanceMethod ny_Nj_init ∈ nj_T0 := nj_T0_in (List.mem_of_getElem? (i := 85) (by decide +kernel)) (by decide +kernel)
theorem kx_Nj_init_c : Cond.code ny_Nj_init nb_Nj_init 2 none ∈ nj_T0 := nj_T0_in (List.mem_of_getElem? (i := 86) (by decide +kernel)) (by decide +kernel)
theorem kx_Club_init_i : Cond.instanceMethod ny_Club_init ∈ nj_T0 := nj_T0_in (List.mem_of_getElem? (i := 97) (by decide +kernel)) (by decide +kernel)
theorem kx_Club_init_c : Cond.code ny_Club_init nb_Club_init 1 none ∈ nj_T0 := nj_T0_in (List.mem_of_getElem? (i := 98) (by decide +kernel)) (by decide +kernel)
theorem kx_Reader_init_i : Cond.instanceMethod ny_Reader_init ∈ nj_T0 := nj_T0_in (List.mem_of_getElem? (i := 146) (by decide +kernel)) (by decide +kernel)
theorem kx_Reader_init_c : Cond.code ny_Reader_init nb_Reader_init 1 none ∈ nj_T0 := nj_T0_in (List.mem_of_getElem? (i := 147) (by decide +kernel)) (by decide +kernel)
theorem kx_Orders_init_i : Cond.instanceMethod ny_Orders_init ∈ nj_T0 := nj_T0_in (List.mem_of_getElem? (i := 159) (by decide +kernel)) (by decide +kernel)
theorem kx_Orders_init_c : Cond.code ny_Orders_init nb_Orders_init 2 none ∈ nj_T0 := nj_T0_in (List.mem_of_getElem? (i := 160) (by decide +kernel)) (by decide +kernel)
theorem kx_Row_init_i : Cond.instanceMethod ny_Row_init ∈ nj_T0 := nj_T0_in (List.mem_of_getElem? (i := 171) (by decide +kernel)) (by decide +kernel)
theorem kx_Row_init_c : Cond.code ny_Row_init nb_Row_init 1 none ∈ nj_T0 := nj_T0_in (List.mem_of_getElem? (i := 172) (by decide +kernel)) (by decide +kernel)
theorem kx_Text_init_i : Cond.instanceMethod ny_Text_init ∈ nj_T0 := nj_T0_in (List.mem_of_getElem? (i := 189) (by decide +kernel)) (by decide +kernel)
theorem kx_Text_init_c : Cond.code ny_Text_init nb_Text_init 1 none ∈ nj_T0 := nj_T0_in (List.mem_of_getElem? (i := 190) (by decide +kernel)) (by decide +kernel)
theorem kx_Md_init_i : Cond.instanceMethod ny_Md_init ∈ nj_T0 := nj_T0_in (List.mem_of_getElem? (i := 792) (by decide +kernel)) (by decide +kernel)
theorem kx_Md_init_c : Cond.code ny_Md_init nb_Md_init 2 none ∈ nj_T0 := nj_T0_in (List.mem_of_getElem? (i := 793) (by decide +kernel)) (by decide +kernel)
abbrev nr_Row_init : Room := { frames := 1, cells := 1, slots := 40, locals := 20 }
theorem ca_Row_init : nj_ConA ny_Row_init nb_Row_init 1 nr_Row_init 1 40 [.inr (3, [.null, .int 0])] [.ref 0] [.inr (3, [.ref 1, .int (-1 : Int32)]), .inl (0, 40, .inl (fun _ => 0))] := by
  refine nj_conA (by decide) rfl 0 rfl (fun G ad CA hq => ?_)
  have CA : nj_CA G nb_Row_init 1 "NobodyJoins$Row" nr_Row_init := CA
  show nj_V G ad 0 0 0 [some (.ref 0)] [] [.inr (3, [.null, .int 0])]
  refine vr_al CA.1 nd_Row_init_0 rfl ?_
  refine vr_oin CA.1 nd_Row_init_1 rfl ko_Row kx_i kx_c rfl rfl rfl ?_
  refine vr_al CA.1 nd_Row_init_4 rfl ?_
  refine vr_ic CA.1 nd_Row_init_5 ?_
  refine vr_newI 40 CA.1 nd_Row_init_7 rfl kw_int (by decide) (by decide) rfl rfl rfl rfl rfl (fun ad1 hg1 => ?_)
  show nj_V G ad1 1 40 9 [some (.ref 0)] [.ref 1, .ref 0] [.inr (3, [.null, .int 0]), .inl (0, 40, .inl (fun _ => 0))]
  refine vr_putF (hp' := [.inr (3, [.ref 1, .int 0]), .inl (0, 40, .inl (fun _ => 0))]) CA nd_Row_init_9 rfl fl_Row_9 (fun r hr => by cases hr; rfl) (fun _ => rfl) (fun _ => rfl) rfl rfl rfl ?_
  refine vr_al CA.1 nd_Row_init_12 rfl ?_
  refine vr_ic CA.1 nd_Row_init_13 ?_
  refine vr_puti (hp' := [.inr (3, [.ref 1, .int (-1 : Int32)]), .inl (0, 40, .inl (fun _ => 0))]) CA.1 nd_Row_init_14 rfl fl_Row_15 rfl rfl rfl ?_
  exact vr_vretA CA.1 hq (nj_agt (nj_agr 1 ad) hg1 rfl) nd_Row_init_17 rfl
abbrev nr_Text_init : Room := { frames := 1, cells := 1, slots := 60, locals := 20 }
theorem ca_Text_init : nj_ConA ny_Text_init nb_Text_init 1 nr_Text_init 1 60 [.inr (4, [.null, .int 0])] [.ref 0] [.inr (4, [.ref 1, .int (-1 : Int32)]), .inl (2, 60, .inl (fun _ => 0))] := by
  refine nj_conA (by decide) rfl 0 rfl (fun G ad CA hq => ?_)
  have CA : nj_CA G nb_Text_init 1 "NobodyJoins$Text" nr_Text_init := CA
  show nj_V G ad 0 0 0 [some (.ref 0)] [] [.inr (4, [.null, .int 0])]
  refine vr_al CA.1 nd_Text_init_0 rfl ?_
  refine vr_oin CA.1 nd_Text_init_1 rfl ko_Text kx_i kx_c rfl rfl rfl ?_
  refine vr_al CA.1 nd_Text_init_4 rfl ?_
  refine vr_ic CA.1 nd_Text_init_5 ?_
  refine vr_newB 60 CA.1 nd_Text_init_7 rfl kw_byte (by decide) (by decide) rfl rfl rfl rfl rfl (fun ad1 hg1 => ?_)
  show nj_V G ad1 1 60 9 [some (.ref 0)] [.ref 1, .ref 0] [.inr (4, [.null, .int 0]), .inl (2, 60, .inl (fun _ => 0))]
  refine vr_putF (hp' := [.inr (4, [.ref 1, .int 0]), .inl (2, 60, .inl (fun _ => 0))]) CA nd_Text_init_9 rfl fl_Text_9 (fun r hr => by cases hr; rfl) (fun _ => rfl) (fun _ => rfl) rfl rfl rfl ?_
  refine vr_al CA.1 nd_Text_init_12 rfl ?_
  refine vr_ic CA.1 nd_Text_init_13 ?_
  refine vr_puti (hp' := [.inr (4, [.ref 1, .int (-1 : Int32)]), .inl (2, 60, .inl (fun _ => 0))]) CA.1 nd_Text_init_14 rfl fl_Text_15 rfl rfl rfl ?_
  exact vr_vretA CA.1 hq (nj_agt (nj_agr 1 ad) hg1 rfl) nd_Text_init_17 rfl
abbrev nr_Club_init : Room := { frames := 1, cells := 4, slots := 58, locals := 20 }
theorem ca_Club_init : nj_ConA ny_Club_init nb_Club_init 1 nr_Club_init 4 58 [.inr (0, [.null, .null, .null, .null, .int 0, .int 0, .int 0, .int 0, .int 0])] [.ref 0] [.inr (0, [.ref 1, .ref 2, .ref 3, .ref 4, .int (0 : Int32), .int (0 : Int32), .int (0 : Int32), .int (0 : Int32), .int (0 : Int32)]), .inl (0, 6, .inl (fun _ => 0)), .inl (0, 6, .inl (fun _ => 0)), .inl (0, 6, .inl (fun _ => 0)), .inl (0, 40, .inl (fun _ => 0))] := by
  refine nj_conA (by decide) rfl 0 rfl (fun G ad CA hq => ?_)
  have CA : nj_CA G nb_Club_init 1 "NobodyJoins$Club" nr_Club_init := CA
  show nj_V G ad 0 0 0 [some (.ref 0)] [] [.inr (0, [.null, .null, .null, .null, .int 0, .int 0, .int 0, .int 0, .int 0])]
  refine vr_al CA.1 nd_Club_init_0 rfl ?_
  refine vr_oin CA.1 nd_Club_init_1 rfl ko_Club kx_i kx_c rfl rfl rfl ?_
  refine vr_al CA.1 nd_Club_init_4 rfl ?_
  refine vr_ic CA.1 nd_Club_init_5 ?_
  refine vr_newI 6 CA.1 nd_Club_init_7 rfl kw_int (by decide) (by decide) rfl rfl rfl rfl rfl (fun ad1 hg1 => ?_)
  show nj_V G ad1 1 6 9 [some (.ref 0)] [.ref 1, .ref 0] [.inr (0, [.null, .null, .null, .null, .int 0, .int 0, .int 0, .int 0, .int 0]), .inl (0, 6, .inl (fun _ => 0))]
  refine vr_putF (hp' := [.inr (0, [.ref 1, .null, .null, .null, .int 0, .int 0, .int 0, .int 0, .int 0]), .inl (0, 6, .inl (fun _ => 0))]) CA nd_Club_init_9 rfl fl_Club_9 (fun r hr => by cases hr; rfl) (fun _ => rfl) (fun _ => rfl) rfl rfl rfl ?_
  refine vr_al CA.1 nd_Club_init_12 rfl ?_
  refine vr_ic CA.1 nd_Club_init_13 ?_
  refine vr_newI 6 CA.1 nd_Club_init_15 rfl kw_int (by decide) (by decide) rfl rfl rfl rfl rfl (fun ad2 hg2 => ?_)
  show nj_V G ad2 2 12 17 [some (.ref 0)] [.ref 2, .ref 0] [.inr (0, [.ref 1, .null, .null, .null, .int 0, .int 0, .int 0, .int 0, .int 0]), .inl (0, 6, .inl (fun _ => 0)), .inl (0, 6, .inl (fun _ => 0))]
  refine vr_putF (hp' := [.inr (0, [.ref 1, .ref 2, .null, .null, .int 0, .int 0, .int 0, .int 0, .int 0]), .inl (0, 6, .inl (fun _ => 0)), .inl (0, 6, .inl (fun _ => 0))]) CA nd_Club_init_17 rfl fl_Club_15 (fun r hr => by cases hr; rfl) (fun _ => rfl) (fun _ => rfl) rfl rfl rfl ?_
  refine vr_al CA.1 nd_Club_init_20 rfl ?_
  refine vr_ic CA.1 nd_Club_init_21 ?_
  refine vr_newI 6 CA.1 nd_Club_init_23 rfl kw_int (by decide) (by decide) rfl rfl rfl rfl rfl (fun ad3 hg3 => ?_)
  show nj_V G ad3 3 18 25 [some (.ref 0)] [.ref 3, .ref 0] [.inr (0, [.ref 1, .ref 2, .null, .null, .int 0, .int 0, .int 0, .int 0, .int 0]), .inl (0, 6, .inl (fun _ => 0)), .inl (0, 6, .inl (fun _ => 0)), .inl (0, 6, .inl (fun _ => 0))]
  refine vr_putF (hp' := [.inr (0, [.ref 1, .ref 2, .ref 3, .null, .int 0, .int 0, .int 0, .int 0, .int 0]), .inl (0, 6, .inl (fun _ => 0)), .inl (0, 6, .inl (fun _ => 0)), .inl (0, 6, .inl (fun _ => 0))]) CA nd_Club_init_25 rfl fl_Club_18 (fun r hr => by cases hr; rfl) (fun _ => rfl) (fun _ => rfl) rfl rfl rfl ?_
  refine vr_al CA.1 nd_Club_init_28 rfl ?_
  refine vr_ic CA.1 nd_Club_init_29 ?_
  refine vr_newI 40 CA.1 nd_Club_init_31 rfl kw_int (by decide) (by decide) rfl rfl rfl rfl rfl (fun ad4 hg4 => ?_)
  show nj_V G ad4 4 58 33 [some (.ref 0)] [.ref 4, .ref 0] [.inr (0, [.ref 1, .ref 2, .ref 3, .null, .int 0, .int 0, .int 0, .int 0, .int 0]), .inl (0, 6, .inl (fun _ => 0)), .inl (0, 6, .inl (fun _ => 0)), .inl (0, 6, .inl (fun _ => 0)), .inl (0, 40, .inl (fun _ => 0))]
  refine vr_putF (hp' := [.inr (0, [.ref 1, .ref 2, .ref 3, .ref 4, .int 0, .int 0, .int 0, .int 0, .int 0]), .inl (0, 6, .inl (fun _ => 0)), .inl (0, 6, .inl (fun _ => 0)), .inl (0, 6, .inl (fun _ => 0)), .inl (0, 40, .inl (fun _ => 0))]) CA nd_Club_init_33 rfl fl_Club_21 (fun r hr => by cases hr; rfl) (fun _ => rfl) (fun _ => rfl) rfl rfl rfl ?_
  refine vr_al CA.1 nd_Club_init_36 rfl ?_
  refine vr_ic CA.1 nd_Club_init_37 ?_
  refine vr_puti (hp' := [.inr (0, [.ref 1, .ref 2, .ref 3, .ref 4, .int (0 : Int32), .int 0, .int 0, .int 0, .int 0]), .inl (0, 6, .inl (fun _ => 0)), .inl (0, 6, .inl (fun _ => 0)), .inl (0, 6, .inl (fun _ => 0)), .inl (0, 40, .inl (fun _ => 0))]) CA.1 nd_Club_init_38 rfl fl_Club_24 rfl rfl rfl ?_
  refine vr_al CA.1 nd_Club_init_41 rfl ?_
  refine vr_ic CA.1 nd_Club_init_42 ?_
  refine vr_puti (hp' := [.inr (0, [.ref 1, .ref 2, .ref 3, .ref 4, .int (0 : Int32), .int (0 : Int32), .int 0, .int 0, .int 0]), .inl (0, 6, .inl (fun _ => 0)), .inl (0, 6, .inl (fun _ => 0)), .inl (0, 6, .inl (fun _ => 0)), .inl (0, 40, .inl (fun _ => 0))]) CA.1 nd_Club_init_43 rfl fl_Club_28 rfl rfl rfl ?_
  refine vr_al CA.1 nd_Club_init_46 rfl ?_
  refine vr_ic CA.1 nd_Club_init_47 ?_
  refine vr_puti (hp' := [.inr (0, [.ref 1, .ref 2, .ref 3, .ref 4, .int (0 : Int32), .int (0 : Int32), .int (0 : Int32), .int 0, .int 0]), .inl (0, 6, .inl (fun _ => 0)), .inl (0, 6, .inl (fun _ => 0)), .inl (0, 6, .inl (fun _ => 0)), .inl (0, 40, .inl (fun _ => 0))]) CA.1 nd_Club_init_48 rfl fl_Club_31 rfl rfl rfl ?_
  refine vr_al CA.1 nd_Club_init_51 rfl ?_
  refine vr_ic CA.1 nd_Club_init_52 ?_
  refine vr_puti (hp' := [.inr (0, [.ref 1, .ref 2, .ref 3, .ref 4, .int (0 : Int32), .int (0 : Int32), .int (0 : Int32), .int (0 : Int32), .int 0]), .inl (0, 6, .inl (fun _ => 0)), .inl (0, 6, .inl (fun _ => 0)), .inl (0, 6, .inl (fun _ => 0)), .inl (0, 40, .inl (fun _ => 0))]) CA.1 nd_Club_init_53 rfl fl_Club_34 rfl rfl rfl ?_
  refine vr_al CA.1 nd_Club_init_56 rfl ?_
  refine vr_ic CA.1 nd_Club_init_57 ?_
  refine vr_puti (hp' := [.inr (0, [.ref 1, .ref 2, .ref 3, .ref 4, .int (0 : Int32), .int (0 : Int32), .int (0 : Int32), .int (0 : Int32), .int (0 : Int32)]), .inl (0, 6, .inl (fun _ => 0)), .inl (0, 6, .inl (fun _ => 0)), .inl (0, 6, .inl (fun _ => 0)), .inl (0, 40, .inl (fun _ => 0))]) CA.1 nd_Club_init_58 rfl fl_Club_37 rfl rfl rfl ?_
  exact vr_vretA CA.1 hq (nj_agt (nj_agt (nj_agt (nj_agt (nj_agr 1 ad) hg1 rfl) hg2 rfl) hg3 rfl) hg4 rfl) nd_Club_init_61 rfl
abbrev nr_Reader_init : Room := { frames := 1, cells := 0, slots := 0, locals := 20 }
theorem ca_Reader_init : nj_ConA ny_Reader_init nb_Reader_init 1 nr_Reader_init 0 0 [.inr (2, [.int 0, .int 0])] [.ref 0] [.inr (2, [.int (0 : Int32), .int (0 : Int32)])] := by
  refine nj_conA (by decide) rfl 0 rfl (fun G ad CA hq => ?_)
  have CA : nj_CA G nb_Reader_init 1 "NobodyJoins$Reader" nr_Reader_init := CA
  show nj_V G ad 0 0 0 [some (.ref 0)] [] [.inr (2, [.int 0, .int 0])]
  refine vr_al CA.1 nd_Reader_init_0 rfl ?_
  refine vr_oin CA.1 nd_Reader_init_1 rfl ko_Reader kx_i kx_c rfl rfl rfl ?_
  refine vr_al CA.1 nd_Reader_init_4 rfl ?_
  refine vr_ic CA.1 nd_Reader_init_5 ?_
  refine vr_puti (hp' := [.inr (2, [.int (0 : Int32), .int 0])]) CA.1 nd_Reader_init_6 rfl fl_Reader_9 rfl rfl rfl ?_
  refine vr_al CA.1 nd_Reader_init_9 rfl ?_
  refine vr_ic CA.1 nd_Reader_init_10 ?_
  refine vr_puti (hp' := [.inr (2, [.int (0 : Int32), .int (0 : Int32)])]) CA.1 nd_Reader_init_11 rfl fl_Reader_15 rfl rfl rfl ?_
  exact vr_vretA CA.1 hq (nj_agr 1 ad) nd_Reader_init_14 rfl
abbrev nr_Orders_init : Room := { frames := 1, cells := 1, slots := 64, locals := 20 }
theorem ca_Orders_init : nj_ConA ny_Orders_init nb_Orders_init 2 nr_Orders_init 1 64 [.inr (1, [.null, .null]), .inr (0, [.ref 2, .ref 3, .ref 4, .ref 5, .int (0 : Int32), .int (0 : Int32), .int (0 : Int32), .int (0 : Int32), .int (0 : Int32)]), .inl (0, 6, .inl (fun _ => 0)), .inl (0, 6, .inl (fun _ => 0)), .inl (0, 6, .inl (fun _ => 0)), .inl (0, 40, .inl (fun _ => 0))] [.ref 0, .ref 1] [.inr (1, [.ref 1, .ref 6]), .inr (0, [.ref 2, .ref 3, .ref 4, .ref 5, .int (0 : Int32), .int (0 : Int32), .int (0 : Int32), .int (0 : Int32), .int (0 : Int32)]), .inl (0, 6, .inl (fun _ => 0)), .inl (0, 6, .inl (fun _ => 0)), .inl (0, 6, .inl (fun _ => 0)), .inl (0, 40, .inl (fun _ => 0)), .inl (0, 64, .inl (fun _ => 0))] := by
  refine nj_conA (by decide) rfl 0 rfl (fun G ad CA hq => ?_)
  have CA : nj_CA G nb_Orders_init 2 "NobodyJoins$Orders" nr_Orders_init := CA
  show nj_V G ad 0 0 0 [some (.ref 0), some (.ref 1)] [] [.inr (1, [.null, .null]), .inr (0, [.ref 2, .ref 3, .ref 4, .ref 5, .int (0 : Int32), .int (0 : Int32), .int (0 : Int32), .int (0 : Int32), .int (0 : Int32)]), .inl (0, 6, .inl (fun _ => 0)), .inl (0, 6, .inl (fun _ => 0)), .inl (0, 6, .inl (fun _ => 0)), .inl (0, 40, .inl (fun _ => 0))]
  refine vr_al CA.1 nd_Orders_init_0 rfl ?_
  refine vr_oin CA.1 nd_Orders_init_1 rfl ko_Orders kx_i kx_c rfl rfl rfl ?_
  refine vr_al CA.1 nd_Orders_init_4 rfl ?_
  refine vr_ic CA.1 nd_Orders_init_5 ?_
  refine vr_newI 64 CA.1 nd_Orders_init_7 rfl kw_int (by decide) (by decide) rfl rfl rfl rfl rfl (fun ad1 hg1 => ?_)
  show nj_V G ad1 1 64 9 [some (.ref 0), some (.ref 1)] [.ref 6, .ref 0] [.inr (1, [.null, .null]), .inr (0, [.ref 2, .ref 3, .ref 4, .ref 5, .int (0 : Int32), .int (0 : Int32), .int (0 : Int32), .int (0 : Int32), .int (0 : Int32)]), .inl (0, 6, .inl (fun _ => 0)), .inl (0, 6, .inl (fun _ => 0)), .inl (0, 6, .inl (fun _ => 0)), .inl (0, 40, .inl (fun _ => 0)), .inl (0, 64, .inl (fun _ => 0))]
  refine vr_putF (hp' := [.inr (1, [.null, .ref 6]), .inr (0, [.ref 2, .ref 3, .ref 4, .ref 5, .int (0 : Int32), .int (0 : Int32), .int (0 : Int32), .int (0 : Int32), .int (0 : Int32)]), .inl (0, 6, .inl (fun _ => 0)), .inl (0, 6, .inl (fun _ => 0)), .inl (0, 6, .inl (fun _ => 0)), .inl (0, 40, .inl (fun _ => 0)), .inl (0, 64, .inl (fun _ => 0))]) CA nd_Orders_init_9 rfl fl_Orders_9 (fun r hr => by cases hr; rfl) (fun _ => rfl) (fun _ => rfl) rfl rfl rfl ?_
  refine vr_al CA.1 nd_Orders_init_12 rfl ?_
  refine vr_al CA.1 nd_Orders_init_13 rfl ?_
  refine vr_putF (hp' := [.inr (1, [.ref 1, .ref 6]), .inr (0, [.ref 2, .ref 3, .ref 4, .ref 5, .int (0 : Int32), .int (0 : Int32), .int (0 : Int32), .int (0 : Int32), .int (0 : Int32)]), .inl (0, 6, .inl (fun _ => 0)), .inl (0, 6, .inl (fun _ => 0)), .inl (0, 6, .inl (fun _ => 0)), .inl (0, 40, .inl (fun _ => 0)), .inl (0, 64, .inl (fun _ => 0))]) CA nd_Orders_init_14 rfl fl_Orders_15 (fun r hr => by cases hr; rfl) (fun _ => rfl) (fun _ => rfl) rfl rfl rfl ?_
  exact vr_vretA CA.1 hq (nj_agt (nj_agr 6 ad) hg1 rfl) nd_Orders_init_17 rfl
abbrev nr_Nj_init : Room := { frames := 2, cells := 52, slots := 922, locals := 41 }
theorem ca_Nj_init : nj_ConA ny_Nj_init nb_Nj_init 2 nr_Nj_init 52 922 [.inr (5, [.null, .null, .null, .null, .null, .null, .null, .null, .int 0, .int 0, .long 0, .long 0])] [.ref 0] [.inr (5, [.ref 1, .ref 2, .ref 3, .ref 8, .ref 13, .ref 14, .ref 15, .ref 17, .int (0 : Int32), .int (0 : Int32), .long (0 : Int64), .long (1 : Int64)]), .inl (3, 6, .inr (.inr (.inr (.inr (va_up (va_up (va_up (va_up (va_up (va_up (fun _ => none) 0 (some 18)) 1 (some 20)) 2 (some 22)) 3 (some 24)) 4 (some 26)) 5 (some 28)))))), .inl (4, 4, .inr (.inr (.inr (.inr (va_up (va_up (va_up (va_up (fun _ => none) 0 (some 30)) 1 (some 32)) 2 (some 34)) 3 (some 36)))))), .inr (0, [.ref 4, .ref 5, .ref 6, .ref 7, .int (0 : Int32), .int (0 : Int32), .int (0 : Int32), .int (0 : Int32), .int (0 : Int32)]), .inl (0, 6, .inl (fun _ => 0)), .inl (0, 6, .inl (fun _ => 0)), .inl (0, 6, .inl (fun _ => 0)), .inl (0, 40, .inl (fun _ => 0)), .inr (0, [.ref 9, .ref 10, .ref 11, .ref 12, .int (0 : Int32), .int (0 : Int32), .int (0 : Int32), .int (0 : Int32), .int (0 : Int32)]), .inl (0, 6, .inl (fun _ => 0)), .inl (0, 6, .inl (fun _ => 0)), .inl (0, 6, .inl (fun _ => 0)), .inl (0, 40, .inl (fun _ => 0)), .inl (5, 3, .inr (.inr (.inr (.inr (va_up (va_up (va_up (fun _ => none) 0 (some 38)) 1 (some 43)) 2 (some 48)))))), .inr (2, [.int (0 : Int32), .int (0 : Int32)]), .inr (1, [.ref 3, .ref 16]), .inl (0, 64, .inl (fun _ => 0)), .inl (0, 6, .inl (fun _ => 0)), .inr (3, [.ref 19, .int (-1 : Int32)]), .inl (0, 40, .inl (fun _ => 0)), .inr (3, [.ref 21, .int (-1 : Int32)]), .inl (0, 40, .inl (fun _ => 0)), .inr (3, [.ref 23, .int (-1 : Int32)]), .inl (0, 40, .inl (fun _ => 0)), .inr (3, [.ref 25, .int (-1 : Int32)]), .inl (0, 40, .inl (fun _ => 0)), .inr (3, [.ref 27, .int (-1 : Int32)]), .inl (0, 40, .inl (fun _ => 0)), .inr (3, [.ref 29, .int (-1 : Int32)]), .inl (0, 40, .inl (fun _ => 0)), .inr (4, [.ref 31, .int (-1 : Int32)]), .inl (2, 60, .inl (fun _ => 0)), .inr (4, [.ref 33, .int (-1 : Int32)]), .inl (2, 60, .inl (fun _ => 0)), .inr (4, [.ref 35, .int (-1 : Int32)]), .inl (2, 60, .inl (fun _ => 0)), .inr (4, [.ref 37, .int (-1 : Int32)]), .inl (2, 60, .inl (fun _ => 0)), .inr (0, [.ref 39, .ref 40, .ref 41, .ref 42, .int (0 : Int32), .int (0 : Int32), .int (0 : Int32), .int (0 : Int32), .int (0 : Int32)]), .inl (0, 6, .inl (fun _ => 0)), .inl (0, 6, .inl (fun _ => 0)), .inl (0, 6, .inl (fun _ => 0)), .inl (0, 40, .inl (fun _ => 0)), .inr (0, [.ref 44, .ref 45, .ref 46, .ref 47, .int (0 : Int32), .int (0 : Int32), .int (0 : Int32), .int (0 : Int32), .int (0 : Int32)]), .inl (0, 6, .inl (fun _ => 0)), .inl (0, 6, .inl (fun _ => 0)), .inl (0, 6, .inl (fun _ => 0)), .inl (0, 40, .inl (fun _ => 0)), .inr (0, [.ref 49, .ref 50, .ref 51, .ref 52, .int (0 : Int32), .int (0 : Int32), .int (0 : Int32), .int (0 : Int32), .int (0 : Int32)]), .inl (0, 6, .inl (fun _ => 0)), .inl (0, 6, .inl (fun _ => 0)), .inl (0, 6, .inl (fun _ => 0)), .inl (0, 40, .inl (fun _ => 0))] := by
  refine nj_conA (by decide) rfl 1 rfl (fun G ad CA hq => ?_)
  have CA : nj_CA G nb_Nj_init 2 "NobodyJoins" nr_Nj_init := CA
  show nj_V G ad 0 0 0 [some (.ref 0), none] [] [.inr (5, [.null, .null, .null, .null, .null, .null, .null, .null, .int 0, .int 0, .long 0, .long 0])]
  refine vr_al CA.1 nd_Nj_init_0 rfl ?_
  refine vr_oin CA.1 nd_Nj_init_1 rfl ko_Nj kx_i kx_c rfl rfl rfl ?_
  refine vr_al CA.1 nd_Nj_init_4 rfl ?_
  refine vr_ic CA.1 nd_Nj_init_5 ?_
  refine vr_newq3 6 CA nd_Nj_init_7 rfl kc_Nj_9 (by decide) (by decide) rfl rfl rfl rfl rfl (fun ad1 hg1 => ?_)
  show nj_V G ad1 1 6 10 [some (.ref 0), none] [.ref 1, .ref 0] [.inr (5, [.null, .null, .null, .null, .null, .null, .null, .null, .int 0, .int 0, .long 0, .long 0]), .inl (3, 6, .inr (.inr (.inr (.inr (fun _ => none)))))]
  refine vr_putF (hp' := [.inr (5, [.ref 1, .null, .null, .null, .null, .null, .null, .null, .int 0, .int 0, .long 0, .long 0]), .inl (3, 6, .inr (.inr (.inr (.inr (fun _ => none)))))]) CA nd_Nj_init_10 rfl fl_Nj_11 (fun r hr => by cases hr; rfl) (fun _ => rfl) (fun _ => rfl) rfl rfl rfl ?_
  refine vr_al CA.1 nd_Nj_init_13 rfl ?_
  refine vr_ic CA.1 nd_Nj_init_14 ?_
  refine vr_newq4 4 CA nd_Nj_init_15 rfl kc_Nj_15 (by decide) (by decide) rfl rfl rfl rfl rfl (fun ad2 hg2 => ?_)
  show nj_V G ad2 2 10 18 [some (.ref 0), none] [.ref 2, .ref 0] [.inr (5, [.ref 1, .null, .null, .null, .null, .null, .null, .null, .int 0, .int 0, .long 0, .long 0]), .inl (3, 6, .inr (.inr (.inr (.inr (fun _ => none))))), .inl (4, 4, .inr (.inr (.inr (.inr (fun _ => none)))))]
  refine vr_putF (hp' := [.inr (5, [.ref 1, .ref 2, .null, .null, .null, .null, .null, .null, .int 0, .int 0, .long 0, .long 0]), .inl (3, 6, .inr (.inr (.inr (.inr (fun _ => none))))), .inl (4, 4, .inr (.inr (.inr (.inr (fun _ => none)))))]) CA nd_Nj_init_18 rfl fl_Nj_17 (fun r hr => by cases hr; rfl) (fun _ => rfl) (fun _ => rfl) rfl rfl rfl ?_
  refine vr_al CA.1 nd_Nj_init_21 rfl ?_
  refine vr_newo (ci := 0) (N := 9) (T := nj_FClub) (fs := [.null, .null, .null, .null, .int 0, .int 0, .int 0, .int 0, .int 0]) CA.1 nd_Nj_init_22 rfl kc_Nj_21 ki_Club kn_Club rfl nj_tClub kt_Club (by decide +kernel) rfl rfl rfl rfl rfl (fun ad3 hg3 => ?_)
  show nj_V G ad3 3 19 25 [some (.ref 0), none] [.ref 3, .ref 0] [.inr (5, [.ref 1, .ref 2, .null, .null, .null, .null, .null, .null, .int 0, .int 0, .long 0, .long 0]), .inl (3, 6, .inr (.inr (.inr (.inr (fun _ => none))))), .inl (4, 4, .inr (.inr (.inr (.inr (fun _ => none))))), .inr (0, [.null, .null, .null, .null, .int 0, .int 0, .int 0, .int 0, .int 0])]
  refine vr_dup CA.1 nd_Nj_init_25 rfl rfl ?_
  refine vr_ctorN [3] 4 [] [.ref 3, .ref 0] (hp2 := [.inr (5, [.ref 1, .ref 2, .null, .null, .null, .null, .null, .null, .int 0, .int 0, .long 0, .long 0]), .inl (3, 6, .inr (.inr (.inr (.inr (fun _ => none))))), .inl (4, 4, .inr (.inr (.inr (.inr (fun _ => none))))), .inr (0, [.ref 4, .ref 5, .ref 6, .ref 7, .int (0 : Int32), .int (0 : Int32), .int (0 : Int32), .int (0 : Int32), .int (0 : Int32)]), .inl (0, 6, .inl (fun _ => 0)), .inl (0, 6, .inl (fun _ => 0)), .inl (0, 6, .inl (fun _ => 0)), .inl (0, 40, .inl (fun _ => 0))]) CA.1 CA.2.1 nd_Nj_init_26 rfl (nj_neI CA.1).2.2.2.1 kx_Club_init_i kn_Club kx_Club_init_c rfl (by decide +kernel) ca_Club_init ⟨rfl, rfl, rfl⟩ (by decide) rfl rfl rfl rfl rfl rfl rfl ⟨rfl, rfl, rfl, rfl⟩ rfl rfl rfl rfl (fun ad4 hg4 => ?_)
  show nj_V G ad4 7 77 29 [some (.ref 0), none] [.ref 3, .ref 0] [.inr (5, [.ref 1, .ref 2, .null, .null, .null, .null, .null, .null, .int 0, .int 0, .long 0, .long 0]), .inl (3, 6, .inr (.inr (.inr (.inr (fun _ => none))))), .inl (4, 4, .inr (.inr (.inr (.inr (fun _ => none))))), .inr (0, [.ref 4, .ref 5, .ref 6, .ref 7, .int (0 : Int32), .int (0 : Int32), .int (0 : Int32), .int (0 : Int32), .int (0 : Int32)]), .inl (0, 6, .inl (fun _ => 0)), .inl (0, 6, .inl (fun _ => 0)), .inl (0, 6, .inl (fun _ => 0)), .inl (0, 40, .inl (fun _ => 0))]
  refine vr_putF (hp' := [.inr (5, [.ref 1, .ref 2, .ref 3, .null, .null, .null, .null, .null, .int 0, .int 0, .long 0, .long 0]), .inl (3, 6, .inr (.inr (.inr (.inr (fun _ => none))))), .inl (4, 4, .inr (.inr (.inr (.inr (fun _ => none))))), .inr (0, [.ref 4, .ref 5, .ref 6, .ref 7, .int (0 : Int32), .int (0 : Int32), .int (0 : Int32), .int (0 : Int32), .int (0 : Int32)]), .inl (0, 6, .inl (fun _ => 0)), .inl (0, 6, .inl (fun _ => 0)), .inl (0, 6, .inl (fun _ => 0)), .inl (0, 40, .inl (fun _ => 0))]) CA nd_Nj_init_29 rfl fl_Nj_24 (fun r hr => by cases hr; rfl) (fun _ => rfl) (fun _ => rfl) rfl rfl rfl ?_
  refine vr_al CA.1 nd_Nj_init_32 rfl ?_
  refine vr_newo (ci := 0) (N := 9) (T := nj_FClub) (fs := [.null, .null, .null, .null, .int 0, .int 0, .int 0, .int 0, .int 0]) CA.1 nd_Nj_init_33 rfl kc_Nj_21 ki_Club kn_Club rfl nj_tClub kt_Club (by decide +kernel) rfl rfl rfl rfl rfl (fun ad5 hg5 => ?_)
  show nj_V G ad5 8 86 36 [some (.ref 0), none] [.ref 8, .ref 0] [.inr (5, [.ref 1, .ref 2, .ref 3, .null, .null, .null, .null, .null, .int 0, .int 0, .long 0, .long 0]), .inl (3, 6, .inr (.inr (.inr (.inr (fun _ => none))))), .inl (4, 4, .inr (.inr (.inr (.inr (fun _ => none))))), .inr (0, [.ref 4, .ref 5, .ref 6, .ref 7, .int (0 : Int32), .int (0 : Int32), .int (0 : Int32), .int (0 : Int32), .int (0 : Int32)]), .inl (0, 6, .inl (fun _ => 0)), .inl (0, 6, .inl (fun _ => 0)), .inl (0, 6, .inl (fun _ => 0)), .inl (0, 40, .inl (fun _ => 0)), .inr (0, [.null, .null, .null, .null, .int 0, .int 0, .int 0, .int 0, .int 0])]
  refine vr_dup CA.1 nd_Nj_init_36 rfl rfl ?_
  refine vr_ctorN [8] 4 [] [.ref 8, .ref 0] (hp2 := [.inr (5, [.ref 1, .ref 2, .ref 3, .null, .null, .null, .null, .null, .int 0, .int 0, .long 0, .long 0]), .inl (3, 6, .inr (.inr (.inr (.inr (fun _ => none))))), .inl (4, 4, .inr (.inr (.inr (.inr (fun _ => none))))), .inr (0, [.ref 4, .ref 5, .ref 6, .ref 7, .int (0 : Int32), .int (0 : Int32), .int (0 : Int32), .int (0 : Int32), .int (0 : Int32)]), .inl (0, 6, .inl (fun _ => 0)), .inl (0, 6, .inl (fun _ => 0)), .inl (0, 6, .inl (fun _ => 0)), .inl (0, 40, .inl (fun _ => 0)), .inr (0, [.ref 9, .ref 10, .ref 11, .ref 12, .int (0 : Int32), .int (0 : Int32), .int (0 : Int32), .int (0 : Int32), .int (0 : Int32)]), .inl (0, 6, .inl (fun _ => 0)), .inl (0, 6, .inl (fun _ => 0)), .inl (0, 6, .inl (fun _ => 0)), .inl (0, 40, .inl (fun _ => 0))]) CA.1 CA.2.1 nd_Nj_init_37 rfl (nj_neI CA.1).2.2.2.1 kx_Club_init_i kn_Club kx_Club_init_c rfl (by decide +kernel) ca_Club_init ⟨rfl, rfl, rfl⟩ (by decide) rfl rfl rfl rfl rfl rfl rfl ⟨rfl, rfl, rfl, rfl⟩ rfl rfl rfl rfl (fun ad6 hg6 => ?_)
  show nj_V G ad6 12 144 40 [some (.ref 0), none] [.ref 8, .ref 0] [.inr (5, [.ref 1, .ref 2, .ref 3, .null, .null, .null, .null, .null, .int 0, .int 0, .long 0, .long 0]), .inl (3, 6, .inr (.inr (.inr (.inr (fun _ => none))))), .inl (4, 4, .inr (.inr (.inr (.inr (fun _ => none))))), .inr (0, [.ref 4, .ref 5, .ref 6, .ref 7, .int (0 : Int32), .int (0 : Int32), .int (0 : Int32), .int (0 : Int32), .int (0 : Int32)]), .inl (0, 6, .inl (fun _ => 0)), .inl (0, 6, .inl (fun _ => 0)), .inl (0, 6, .inl (fun _ => 0)), .inl (0, 40, .inl (fun _ => 0)), .inr (0, [.ref 9, .ref 10, .ref 11, .ref 12, .int (0 : Int32), .int (0 : Int32), .int (0 : Int32), .int (0 : Int32), .int (0 : Int32)]), .inl (0, 6, .inl (fun _ => 0)), .inl (0, 6, .inl (fun _ => 0)), .inl (0, 6, .inl (fun _ => 0)), .inl (0, 40, .inl (fun _ => 0))]
  refine vr_putF (hp' := [.inr (5, [.ref 1, .ref 2, .ref 3, .ref 8, .null, .null, .null, .null, .int 0, .int 0, .long 0, .long 0]), .inl (3, 6, .inr (.inr (.inr (.inr (fun _ => none))))), .inl (4, 4, .inr (.inr (.inr (.inr (fun _ => none))))), .inr (0, [.ref 4, .ref 5, .ref 6, .ref 7, .int (0 : Int32), .int (0 : Int32), .int (0 : Int32), .int (0 : Int32), .int (0 : Int32)]), .inl (0, 6, .inl (fun _ => 0)), .inl (0, 6, .inl (fun _ => 0)), .inl (0, 6, .inl (fun _ => 0)), .inl (0, 40, .inl (fun _ => 0)), .inr (0, [.ref 9, .ref 10, .ref 11, .ref 12, .int (0 : Int32), .int (0 : Int32), .int (0 : Int32), .int (0 : Int32), .int (0 : Int32)]), .inl (0, 6, .inl (fun _ => 0)), .inl (0, 6, .inl (fun _ => 0)), .inl (0, 6, .inl (fun _ => 0)), .inl (0, 40, .inl (fun _ => 0))]) CA nd_Nj_init_40 rfl fl_Nj_28 (fun r hr => by cases hr; rfl) (fun _ => rfl) (fun _ => rfl) rfl rfl rfl ?_
  refine vr_al CA.1 nd_Nj_init_43 rfl ?_
  refine vr_ic CA.1 nd_Nj_init_44 ?_
  refine vr_newq5 3 CA nd_Nj_init_45 rfl kc_Nj_21 (by decide) (by decide) rfl rfl rfl rfl rfl (fun ad7 hg7 => ?_)
  show nj_V G ad7 13 147 48 [some (.ref 0), none] [.ref 13, .ref 0] [.inr (5, [.ref 1, .ref 2, .ref 3, .ref 8, .null, .null, .null, .null, .int 0, .int 0, .long 0, .long 0]), .inl (3, 6, .inr (.inr (.inr (.inr (fun _ => none))))), .inl (4, 4, .inr (.inr (.inr (.inr (fun _ => none))))), .inr (0, [.ref 4, .ref 5, .ref 6, .ref 7, .int (0 : Int32), .int (0 : Int32), .int (0 : Int32), .int (0 : Int32), .int (0 : Int32)]), .inl (0, 6, .inl (fun _ => 0)), .inl (0, 6, .inl (fun _ => 0)), .inl (0, 6, .inl (fun _ => 0)), .inl (0, 40, .inl (fun _ => 0)), .inr (0, [.ref 9, .ref 10, .ref 11, .ref 12, .int (0 : Int32), .int (0 : Int32), .int (0 : Int32), .int (0 : Int32), .int (0 : Int32)]), .inl (0, 6, .inl (fun _ => 0)), .inl (0, 6, .inl (fun _ => 0)), .inl (0, 6, .inl (fun _ => 0)), .inl (0, 40, .inl (fun _ => 0)), .inl (5, 3, .inr (.inr (.inr (.inr (fun _ => none)))))]
  refine vr_putF (hp' := [.inr (5, [.ref 1, .ref 2, .ref 3, .ref 8, .ref 13, .null, .null, .null, .int 0, .int 0, .long 0, .long 0]), .inl (3, 6, .inr (.inr (.inr (.inr (fun _ => none))))), .inl (4, 4, .inr (.inr (.inr (.inr (fun _ => none))))), .inr (0, [.ref 4, .ref 5, .ref 6, .ref 7, .int (0 : Int32), .int (0 : Int32), .int (0 : Int32), .int (0 : Int32), .int (0 : Int32)]), .inl (0, 6, .inl (fun _ => 0)), .inl (0, 6, .inl (fun _ => 0)), .inl (0, 6, .inl (fun _ => 0)), .inl (0, 40, .inl (fun _ => 0)), .inr (0, [.ref 9, .ref 10, .ref 11, .ref 12, .int (0 : Int32), .int (0 : Int32), .int (0 : Int32), .int (0 : Int32), .int (0 : Int32)]), .inl (0, 6, .inl (fun _ => 0)), .inl (0, 6, .inl (fun _ => 0)), .inl (0, 6, .inl (fun _ => 0)), .inl (0, 40, .inl (fun _ => 0)), .inl (5, 3, .inr (.inr (.inr (.inr (fun _ => none)))))]) CA nd_Nj_init_48 rfl fl_Nj_31 (fun r hr => by cases hr; rfl) (fun _ => rfl) (fun _ => rfl) rfl rfl rfl ?_
  refine vr_al CA.1 nd_Nj_init_51 rfl ?_
  refine vr_newo (ci := 2) (N := 2) (T := nj_FReader) (fs := [.int 0, .int 0]) CA.1 nd_Nj_init_52 rfl kc_Nj_35 ki_Reader kn_Reader rfl nj_tReader kt_Reader (by decide +kernel) rfl rfl rfl rfl rfl (fun ad8 hg8 => ?_)
  show nj_V G ad8 14 149 55 [some (.ref 0), none] [.ref 14, .ref 0] [.inr (5, [.ref 1, .ref 2, .ref 3, .ref 8, .ref 13, .null, .null, .null, .int 0, .int 0, .long 0, .long 0]), .inl (3, 6, .inr (.inr (.inr (.inr (fun _ => none))))), .inl (4, 4, .inr (.inr (.inr (.inr (fun _ => none))))), .inr (0, [.ref 4, .ref 5, .ref 6, .ref 7, .int (0 : Int32), .int (0 : Int32), .int (0 : Int32), .int (0 : Int32), .int (0 : Int32)]), .inl (0, 6, .inl (fun _ => 0)), .inl (0, 6, .inl (fun _ => 0)), .inl (0, 6, .inl (fun _ => 0)), .inl (0, 40, .inl (fun _ => 0)), .inr (0, [.ref 9, .ref 10, .ref 11, .ref 12, .int (0 : Int32), .int (0 : Int32), .int (0 : Int32), .int (0 : Int32), .int (0 : Int32)]), .inl (0, 6, .inl (fun _ => 0)), .inl (0, 6, .inl (fun _ => 0)), .inl (0, 6, .inl (fun _ => 0)), .inl (0, 40, .inl (fun _ => 0)), .inl (5, 3, .inr (.inr (.inr (.inr (fun _ => none))))), .inr (2, [.int 0, .int 0])]
  refine vr_dup CA.1 nd_Nj_init_55 rfl rfl ?_
  refine vr_ctorN [14] 0 [] [.ref 14, .ref 0] (hp2 := [.inr (5, [.ref 1, .ref 2, .ref 3, .ref 8, .ref 13, .null, .null, .null, .int 0, .int 0, .long 0, .long 0]), .inl (3, 6, .inr (.inr (.inr (.inr (fun _ => none))))), .inl (4, 4, .inr (.inr (.inr (.inr (fun _ => none))))), .inr (0, [.ref 4, .ref 5, .ref 6, .ref 7, .int (0 : Int32), .int (0 : Int32), .int (0 : Int32), .int (0 : Int32), .int (0 : Int32)]), .inl (0, 6, .inl (fun _ => 0)), .inl (0, 6, .inl (fun _ => 0)), .inl (0, 6, .inl (fun _ => 0)), .inl (0, 40, .inl (fun _ => 0)), .inr (0, [.ref 9, .ref 10, .ref 11, .ref 12, .int (0 : Int32), .int (0 : Int32), .int (0 : Int32), .int (0 : Int32), .int (0 : Int32)]), .inl (0, 6, .inl (fun _ => 0)), .inl (0, 6, .inl (fun _ => 0)), .inl (0, 6, .inl (fun _ => 0)), .inl (0, 40, .inl (fun _ => 0)), .inl (5, 3, .inr (.inr (.inr (.inr (fun _ => none))))), .inr (2, [.int (0 : Int32), .int (0 : Int32)])]) CA.1 CA.2.1 nd_Nj_init_56 rfl (nj_neI CA.1).2.2.2.2.1 kx_Reader_init_i kn_Reader kx_Reader_init_c rfl (by decide +kernel) ca_Reader_init ⟨rfl, rfl, rfl⟩ (by decide) rfl rfl rfl rfl rfl rfl rfl ⟨rfl, rfl, rfl, rfl⟩ rfl rfl rfl rfl (fun ad9 hg9 => ?_)
  show nj_V G ad9 14 149 59 [some (.ref 0), none] [.ref 14, .ref 0] [.inr (5, [.ref 1, .ref 2, .ref 3, .ref 8, .ref 13, .null, .null, .null, .int 0, .int 0, .long 0, .long 0]), .inl (3, 6, .inr (.inr (.inr (.inr (fun _ => none))))), .inl (4, 4, .inr (.inr (.inr (.inr (fun _ => none))))), .inr (0, [.ref 4, .ref 5, .ref 6, .ref 7, .int (0 : Int32), .int (0 : Int32), .int (0 : Int32), .int (0 : Int32), .int (0 : Int32)]), .inl (0, 6, .inl (fun _ => 0)), .inl (0, 6, .inl (fun _ => 0)), .inl (0, 6, .inl (fun _ => 0)), .inl (0, 40, .inl (fun _ => 0)), .inr (0, [.ref 9, .ref 10, .ref 11, .ref 12, .int (0 : Int32), .int (0 : Int32), .int (0 : Int32), .int (0 : Int32), .int (0 : Int32)]), .inl (0, 6, .inl (fun _ => 0)), .inl (0, 6, .inl (fun _ => 0)), .inl (0, 6, .inl (fun _ => 0)), .inl (0, 40, .inl (fun _ => 0)), .inl (5, 3, .inr (.inr (.inr (.inr (fun _ => none))))), .inr (2, [.int (0 : Int32), .int (0 : Int32)])]
  refine vr_putF (hp' := [.inr (5, [.ref 1, .ref 2, .ref 3, .ref 8, .ref 13, .ref 14, .null, .null, .int 0, .int 0, .long 0, .long 0]), .inl (3, 6, .inr (.inr (.inr (.inr (fun _ => none))))), .inl (4, 4, .inr (.inr (.inr (.inr (fun _ => none))))), .inr (0, [.ref 4, .ref 5, .ref 6, .ref 7, .int (0 : Int32), .int (0 : Int32), .int (0 : Int32), .int (0 : Int32), .int (0 : Int32)]), .inl (0, 6, .inl (fun _ => 0)), .inl (0, 6, .inl (fun _ => 0)), .inl (0, 6, .inl (fun _ => 0)), .inl (0, 40, .inl (fun _ => 0)), .inr (0, [.ref 9, .ref 10, .ref 11, .ref 12, .int (0 : Int32), .int (0 : Int32), .int (0 : Int32), .int (0 : Int32), .int (0 : Int32)]), .inl (0, 6, .inl (fun _ => 0)), .inl (0, 6, .inl (fun _ => 0)), .inl (0, 6, .inl (fun _ => 0)), .inl (0, 40, .inl (fun _ => 0)), .inl (5, 3, .inr (.inr (.inr (.inr (fun _ => none))))), .inr (2, [.int (0 : Int32), .int (0 : Int32)])]) CA nd_Nj_init_59 rfl fl_Nj_38 (fun r hr => by cases hr; rfl) (fun _ => rfl) (fun _ => rfl) rfl rfl rfl ?_
  refine vr_al CA.1 nd_Nj_init_62 rfl ?_
  refine vr_newo (ci := 1) (N := 2) (T := nj_FOrders) (fs := [.null, .null]) CA.1 nd_Nj_init_63 rfl kc_Nj_42 ki_Orders kn_Orders rfl nj_tOrders kt_Orders (by decide +kernel) rfl rfl rfl rfl rfl (fun ad10 hg10 => ?_)
  show nj_V G ad10 15 151 66 [some (.ref 0), none] [.ref 15, .ref 0] [.inr (5, [.ref 1, .ref 2, .ref 3, .ref 8, .ref 13, .ref 14, .null, .null, .int 0, .int 0, .long 0, .long 0]), .inl (3, 6, .inr (.inr (.inr (.inr (fun _ => none))))), .inl (4, 4, .inr (.inr (.inr (.inr (fun _ => none))))), .inr (0, [.ref 4, .ref 5, .ref 6, .ref 7, .int (0 : Int32), .int (0 : Int32), .int (0 : Int32), .int (0 : Int32), .int (0 : Int32)]), .inl (0, 6, .inl (fun _ => 0)), .inl (0, 6, .inl (fun _ => 0)), .inl (0, 6, .inl (fun _ => 0)), .inl (0, 40, .inl (fun _ => 0)), .inr (0, [.ref 9, .ref 10, .ref 11, .ref 12, .int (0 : Int32), .int (0 : Int32), .int (0 : Int32), .int (0 : Int32), .int (0 : Int32)]), .inl (0, 6, .inl (fun _ => 0)), .inl (0, 6, .inl (fun _ => 0)), .inl (0, 6, .inl (fun _ => 0)), .inl (0, 40, .inl (fun _ => 0)), .inl (5, 3, .inr (.inr (.inr (.inr (fun _ => none))))), .inr (2, [.int (0 : Int32), .int (0 : Int32)]), .inr (1, [.null, .null])]
  refine vr_dup CA.1 nd_Nj_init_66 rfl rfl ?_
  refine vr_al CA.1 nd_Nj_init_67 rfl ?_
  refine vr_get (v := .ref 3) CA.1 nd_Nj_init_68 rfl fl_Nj_24 (q := 0) rfl rfl ?_
  refine vr_ctorI [15, 3, 4, 5, 6, 7] 1 [.ref 1] [.ref 15, .ref 0] (hp2 := [.inr (5, [.ref 1, .ref 2, .ref 3, .ref 8, .ref 13, .ref 14, .null, .null, .int 0, .int 0, .long 0, .long 0]), .inl (3, 6, .inr (.inr (.inr (.inr (fun _ => none))))), .inl (4, 4, .inr (.inr (.inr (.inr (fun _ => none))))), .inr (0, [.ref 4, .ref 5, .ref 6, .ref 7, .int (0 : Int32), .int (0 : Int32), .int (0 : Int32), .int (0 : Int32), .int (0 : Int32)]), .inl (0, 6, .inl (fun _ => 0)), .inl (0, 6, .inl (fun _ => 0)), .inl (0, 6, .inl (fun _ => 0)), .inl (0, 40, .inl (fun _ => 0)), .inr (0, [.ref 9, .ref 10, .ref 11, .ref 12, .int (0 : Int32), .int (0 : Int32), .int (0 : Int32), .int (0 : Int32), .int (0 : Int32)]), .inl (0, 6, .inl (fun _ => 0)), .inl (0, 6, .inl (fun _ => 0)), .inl (0, 6, .inl (fun _ => 0)), .inl (0, 40, .inl (fun _ => 0)), .inl (5, 3, .inr (.inr (.inr (.inr (fun _ => none))))), .inr (2, [.int (0 : Int32), .int (0 : Int32)]), .inr (1, [.ref 3, .ref 16]), .inl (0, 64, .inl (fun _ => 0))]) CA.1 CA.2.1 nd_Nj_init_71 rfl ml_Nj_44 kx_Orders_init_i kn_Orders kx_Orders_init_c rfl (by decide +kernel) ca_Orders_init ⟨rfl, rfl, rfl⟩ (by decide) rfl rfl rfl rfl rfl rfl rfl ⟨rfl, rfl, rfl, rfl⟩ rfl rfl rfl rfl (fun ad11 hg11 => ?_)
  show nj_V G ad11 16 215 74 [some (.ref 0), none] [.ref 15, .ref 0] [.inr (5, [.ref 1, .ref 2, .ref 3, .ref 8, .ref 13, .ref 14, .null, .null, .int 0, .int 0, .long 0, .long 0]), .inl (3, 6, .inr (.inr (.inr (.inr (fun _ => none))))), .inl (4, 4, .inr (.inr (.inr (.inr (fun _ => none))))), .inr (0, [.ref 4, .ref 5, .ref 6, .ref 7, .int (0 : Int32), .int (0 : Int32), .int (0 : Int32), .int (0 : Int32), .int (0 : Int32)]), .inl (0, 6, .inl (fun _ => 0)), .inl (0, 6, .inl (fun _ => 0)), .inl (0, 6, .inl (fun _ => 0)), .inl (0, 40, .inl (fun _ => 0)), .inr (0, [.ref 9, .ref 10, .ref 11, .ref 12, .int (0 : Int32), .int (0 : Int32), .int (0 : Int32), .int (0 : Int32), .int (0 : Int32)]), .inl (0, 6, .inl (fun _ => 0)), .inl (0, 6, .inl (fun _ => 0)), .inl (0, 6, .inl (fun _ => 0)), .inl (0, 40, .inl (fun _ => 0)), .inl (5, 3, .inr (.inr (.inr (.inr (fun _ => none))))), .inr (2, [.int (0 : Int32), .int (0 : Int32)]), .inr (1, [.ref 3, .ref 16]), .inl (0, 64, .inl (fun _ => 0))]
  refine vr_putF (hp' := [.inr (5, [.ref 1, .ref 2, .ref 3, .ref 8, .ref 13, .ref 14, .ref 15, .null, .int 0, .int 0, .long 0, .long 0]), .inl (3, 6, .inr (.inr (.inr (.inr (fun _ => none))))), .inl (4, 4, .inr (.inr (.inr (.inr (fun _ => none))))), .inr (0, [.ref 4, .ref 5, .ref 6, .ref 7, .int (0 : Int32), .int (0 : Int32), .int (0 : Int32), .int (0 : Int32), .int (0 : Int32)]), .inl (0, 6, .inl (fun _ => 0)), .inl (0, 6, .inl (fun _ => 0)), .inl (0, 6, .inl (fun _ => 0)), .inl (0, 40, .inl (fun _ => 0)), .inr (0, [.ref 9, .ref 10, .ref 11, .ref 12, .int (0 : Int32), .int (0 : Int32), .int (0 : Int32), .int (0 : Int32), .int (0 : Int32)]), .inl (0, 6, .inl (fun _ => 0)), .inl (0, 6, .inl (fun _ => 0)), .inl (0, 6, .inl (fun _ => 0)), .inl (0, 40, .inl (fun _ => 0)), .inl (5, 3, .inr (.inr (.inr (.inr (fun _ => none))))), .inr (2, [.int (0 : Int32), .int (0 : Int32)]), .inr (1, [.ref 3, .ref 16]), .inl (0, 64, .inl (fun _ => 0))]) CA nd_Nj_init_74 rfl fl_Nj_47 (fun r hr => by cases hr; rfl) (fun _ => rfl) (fun _ => rfl) rfl rfl rfl ?_
  refine vr_al CA.1 nd_Nj_init_77 rfl ?_
  refine vr_ic CA.1 nd_Nj_init_78 ?_
  refine vr_newI 6 CA.1 nd_Nj_init_80 rfl kw_int (by decide) (by decide) rfl rfl rfl rfl rfl (fun ad12 hg12 => ?_)
  show nj_V G ad12 17 221 82 [some (.ref 0), none] [.ref 17, .ref 0] [.inr (5, [.ref 1, .ref 2, .ref 3, .ref 8, .ref 13, .ref 14, .ref 15, .null, .int 0, .int 0, .long 0, .long 0]), .inl (3, 6, .inr (.inr (.inr (.inr (fun _ => none))))), .inl (4, 4, .inr (.inr (.inr (.inr (fun _ => none))))), .inr (0, [.ref 4, .ref 5, .ref 6, .ref 7, .int (0 : Int32), .int (0 : Int32), .int (0 : Int32), .int (0 : Int32), .int (0 : Int32)]), .inl (0, 6, .inl (fun _ => 0)), .inl (0, 6, .inl (fun _ => 0)), .inl (0, 6, .inl (fun _ => 0)), .inl (0, 40, .inl (fun _ => 0)), .inr (0, [.ref 9, .ref 10, .ref 11, .ref 12, .int (0 : Int32), .int (0 : Int32), .int (0 : Int32), .int (0 : Int32), .int (0 : Int32)]), .inl (0, 6, .inl (fun _ => 0)), .inl (0, 6, .inl (fun _ => 0)), .inl (0, 6, .inl (fun _ => 0)), .inl (0, 40, .inl (fun _ => 0)), .inl (5, 3, .inr (.inr (.inr (.inr (fun _ => none))))), .inr (2, [.int (0 : Int32), .int (0 : Int32)]), .inr (1, [.ref 3, .ref 16]), .inl (0, 64, .inl (fun _ => 0)), .inl (0, 6, .inl (fun _ => 0))]
  refine vr_putF (hp' := [.inr (5, [.ref 1, .ref 2, .ref 3, .ref 8, .ref 13, .ref 14, .ref 15, .ref 17, .int 0, .int 0, .long 0, .long 0]), .inl (3, 6, .inr (.inr (.inr (.inr (fun _ => none))))), .inl (4, 4, .inr (.inr (.inr (.inr (fun _ => none))))), .inr (0, [.ref 4, .ref 5, .ref 6, .ref 7, .int (0 : Int32), .int (0 : Int32), .int (0 : Int32), .int (0 : Int32), .int (0 : Int32)]), .inl (0, 6, .inl (fun _ => 0)), .inl (0, 6, .inl (fun _ => 0)), .inl (0, 6, .inl (fun _ => 0)), .inl (0, 40, .inl (fun _ => 0)), .inr (0, [.ref 9, .ref 10, .ref 11, .ref 12, .int (0 : Int32), .int (0 : Int32), .int (0 : Int32), .int (0 : Int32), .int (0 : Int32)]), .inl (0, 6, .inl (fun _ => 0)), .inl (0, 6, .inl (fun _ => 0)), .inl (0, 6, .inl (fun _ => 0)), .inl (0, 40, .inl (fun _ => 0)), .inl (5, 3, .inr (.inr (.inr (.inr (fun _ => none))))), .inr (2, [.int (0 : Int32), .int (0 : Int32)]), .inr (1, [.ref 3, .ref 16]), .inl (0, 64, .inl (fun _ => 0)), .inl (0, 6, .inl (fun _ => 0))]) CA nd_Nj_init_82 rfl fl_Nj_51 (fun r hr => by cases hr; rfl) (fun _ => rfl) (fun _ => rfl) rfl rfl rfl ?_
  refine vr_al CA.1 nd_Nj_init_85 rfl ?_
  refine vr_ic CA.1 nd_Nj_init_86 ?_
  refine vr_puti (hp' := [.inr (5, [.ref 1, .ref 2, .ref 3, .ref 8, .ref 13, .ref 14, .ref 15, .ref 17, .int (0 : Int32), .int 0, .long 0, .long 0]), .inl (3, 6, .inr (.inr (.inr (.inr (fun _ => none))))), .inl (4, 4, .inr (.inr (.inr (.inr (fun _ => none))))), .inr (0, [.ref 4, .ref 5, .ref 6, .ref 7, .int (0 : Int32), .int (0 : Int32), .int (0 : Int32), .int (0 : Int32), .int (0 : Int32)]), .inl (0, 6, .inl (fun _ => 0)), .inl (0, 6, .inl (fun _ => 0)), .inl (0, 6, .inl (fun _ => 0)), .inl (0, 40, .inl (fun _ => 0)), .inr (0, [.ref 9, .ref 10, .ref 11, .ref 12, .int (0 : Int32), .int (0 : Int32), .int (0 : Int32), .int (0 : Int32), .int (0 : Int32)]), .inl (0, 6, .inl (fun _ => 0)), .inl (0, 6, .inl (fun _ => 0)), .inl (0, 6, .inl (fun _ => 0)), .inl (0, 40, .inl (fun _ => 0)), .inl (5, 3, .inr (.inr (.inr (.inr (fun _ => none))))), .inr (2, [.int (0 : Int32), .int (0 : Int32)]), .inr (1, [.ref 3, .ref 16]), .inl (0, 64, .inl (fun _ => 0)), .inl (0, 6, .inl (fun _ => 0))]) CA.1 nd_Nj_init_87 rfl fl_Nj_55 rfl rfl rfl ?_
  refine vr_al CA.1 nd_Nj_init_90 rfl ?_
  refine vr_ic CA.1 nd_Nj_init_91 ?_
  refine vr_puti (hp' := [.inr (5, [.ref 1, .ref 2, .ref 3, .ref 8, .ref 13, .ref 14, .ref 15, .ref 17, .int (0 : Int32), .int (0 : Int32), .long 0, .long 0]), .inl (3, 6, .inr (.inr (.inr (.inr (fun _ => none))))), .inl (4, 4, .inr (.inr (.inr (.inr (fun _ => none))))), .inr (0, [.ref 4, .ref 5, .ref 6, .ref 7, .int (0 : Int32), .int (0 : Int32), .int (0 : Int32), .int (0 : Int32), .int (0 : Int32)]), .inl (0, 6, .inl (fun _ => 0)), .inl (0, 6, .inl (fun _ => 0)), .inl (0, 6, .inl (fun _ => 0)), .inl (0, 40, .inl (fun _ => 0)), .inr (0, [.ref 9, .ref 10, .ref 11, .ref 12, .int (0 : Int32), .int (0 : Int32), .int (0 : Int32), .int (0 : Int32), .int (0 : Int32)]), .inl (0, 6, .inl (fun _ => 0)), .inl (0, 6, .inl (fun _ => 0)), .inl (0, 6, .inl (fun _ => 0)), .inl (0, 40, .inl (fun _ => 0)), .inl (5, 3, .inr (.inr (.inr (.inr (fun _ => none))))), .inr (2, [.int (0 : Int32), .int (0 : Int32)]), .inr (1, [.ref 3, .ref 16]), .inl (0, 64, .inl (fun _ => 0)), .inl (0, 6, .inl (fun _ => 0))]) CA.1 nd_Nj_init_92 rfl fl_Nj_59 rfl rfl rfl ?_
  refine vr_al CA.1 nd_Nj_init_95 rfl ?_
  refine vr_lc (v := (0 : Int64)) CA.1 nd_Nj_init_96 rfl (by decide) ?_
  refine vr_putl (hp' := [.inr (5, [.ref 1, .ref 2, .ref 3, .ref 8, .ref 13, .ref 14, .ref 15, .ref 17, .int (0 : Int32), .int (0 : Int32), .long (0 : Int64), .long 0]), .inl (3, 6, .inr (.inr (.inr (.inr (fun _ => none))))), .inl (4, 4, .inr (.inr (.inr (.inr (fun _ => none))))), .inr (0, [.ref 4, .ref 5, .ref 6, .ref 7, .int (0 : Int32), .int (0 : Int32), .int (0 : Int32), .int (0 : Int32), .int (0 : Int32)]), .inl (0, 6, .inl (fun _ => 0)), .inl (0, 6, .inl (fun _ => 0)), .inl (0, 6, .inl (fun _ => 0)), .inl (0, 40, .inl (fun _ => 0)), .inr (0, [.ref 9, .ref 10, .ref 11, .ref 12, .int (0 : Int32), .int (0 : Int32), .int (0 : Int32), .int (0 : Int32), .int (0 : Int32)]), .inl (0, 6, .inl (fun _ => 0)), .inl (0, 6, .inl (fun _ => 0)), .inl (0, 6, .inl (fun _ => 0)), .inl (0, 40, .inl (fun _ => 0)), .inl (5, 3, .inr (.inr (.inr (.inr (fun _ => none))))), .inr (2, [.int (0 : Int32), .int (0 : Int32)]), .inr (1, [.ref 3, .ref 16]), .inl (0, 64, .inl (fun _ => 0)), .inl (0, 6, .inl (fun _ => 0))]) CA.1 nd_Nj_init_97 rfl fl_Nj_62 rfl rfl rfl ?_
  refine vr_al CA.1 nd_Nj_init_100 rfl ?_
  refine vr_lc (v := (1 : Int64)) CA.1 nd_Nj_init_101 rfl (by decide) ?_
  refine vr_putl (hp' := [.inr (5, [.ref 1, .ref 2, .ref 3, .ref 8, .ref 13, .ref 14, .ref 15, .ref 17, .int (0 : Int32), .int (0 : Int32), .long (0 : Int64), .long (1 : Int64)]), .inl (3, 6, .inr (.inr (.inr (.inr (fun _ => none))))), .inl (4, 4, .inr (.inr (.inr (.inr (fun _ => none))))), .inr (0, [.ref 4, .ref 5, .ref 6, .ref 7, .int (0 : Int32), .int (0 : Int32), .int (0 : Int32), .int (0 : Int32), .int (0 : Int32)]), .inl (0, 6, .inl (fun _ => 0)), .inl (0, 6, .inl (fun _ => 0)), .inl (0, 6, .inl (fun _ => 0)), .inl (0, 40, .inl (fun _ => 0)), .inr (0, [.ref 9, .ref 10, .ref 11, .ref 12, .int (0 : Int32), .int (0 : Int32), .int (0 : Int32), .int (0 : Int32), .int (0 : Int32)]), .inl (0, 6, .inl (fun _ => 0)), .inl (0, 6, .inl (fun _ => 0)), .inl (0, 6, .inl (fun _ => 0)), .inl (0, 40, .inl (fun _ => 0)), .inl (5, 3, .inr (.inr (.inr (.inr (fun _ => none))))), .inr (2, [.int (0 : Int32), .int (0 : Int32)]), .inr (1, [.ref 3, .ref 16]), .inl (0, 64, .inl (fun _ => 0)), .inl (0, 6, .inl (fun _ => 0))]) CA.1 nd_Nj_init_102 rfl fl_Nj_66 rfl rfl rfl ?_
  refine vr_ic CA.1 nd_Nj_init_105 ?_
  refine vr_is (ls' := [some (.ref 0), some (.int (0 : Int32))]) CA.1 nd_Nj_init_106 rfl rfl ?_
  refine vr_il CA.1 nd_Nj_init_107 rfl ?_
  refine vr_ic CA.1 nd_Nj_init_108 ?_
  refine vr_cm_ge CA.1 nd_Nj_init_110 (fun hc => absurd hc (by decide)) (fun _ => ?_)
  refine vr_al CA.1 nd_Nj_init_113 rfl ?_
  refine vr_get (v := .ref 1) CA.1 nd_Nj_init_114 rfl fl_Nj_11 (q := 0) rfl rfl ?_
  refine vr_il CA.1 nd_Nj_init_117 rfl ?_
  refine vr_newo (ci := 3) (N := 2) (T := nj_FRow) (fs := [.null, .int 0]) CA.1 nd_Nj_init_118 rfl kc_Nj_9 ki_Row kn_Row rfl nj_tRow kt_Row (by decide +kernel) rfl rfl rfl rfl rfl (fun ad13 hg13 => ?_)
  show nj_V G ad13 18 223 121 [some (.ref 0), some (.int (0 : Int32))] [.ref 18, .int (0 : Int32), .ref 1] [.inr (5, [.ref 1, .ref 2, .ref 3, .ref 8, .ref 13, .ref 14, .ref 15, .ref 17, .int (0 : Int32), .int (0 : Int32), .long (0 : Int64), .long (1 : Int64)]), .inl (3, 6, .inr (.inr (.inr (.inr (fun _ => none))))), .inl (4, 4, .inr (.inr (.inr (.inr (fun _ => none))))), .inr (0, [.ref 4, .ref 5, .ref 6, .ref 7, .int (0 : Int32), .int (0 : Int32), .int (0 : Int32), .int (0 : Int32), .int (0 : Int32)]), .inl (0, 6, .inl (fun _ => 0)), .inl (0, 6, .inl (fun _ => 0)), .inl (0, 6, .inl (fun _ => 0)), .inl (0, 40, .inl (fun _ => 0)), .inr (0, [.ref 9, .ref 10, .ref 11, .ref 12, .int (0 : Int32), .int (0 : Int32), .int (0 : Int32), .int (0 : Int32), .int (0 : Int32)]), .inl (0, 6, .inl (fun _ => 0)), .inl (0, 6, .inl (fun _ => 0)), .inl (0, 6, .inl (fun _ => 0)), .inl (0, 40, .inl (fun _ => 0)), .inl (5, 3, .inr (.inr (.inr (.inr (fun _ => none))))), .inr (2, [.int (0 : Int32), .int (0 : Int32)]), .inr (1, [.ref 3, .ref 16]), .inl (0, 64, .inl (fun _ => 0)), .inl (0, 6, .inl (fun _ => 0)), .inr (3, [.null, .int 0])]
  refine vr_dup CA.1 nd_Nj_init_121 rfl rfl ?_
  refine vr_ctorN [18] 1 [] [.ref 18, .int (0 : Int32), .ref 1] (hp2 := [.inr (5, [.ref 1, .ref 2, .ref 3, .ref 8, .ref 13, .ref 14, .ref 15, .ref 17, .int (0 : Int32), .int (0 : Int32), .long (0 : Int64), .long (1 : Int64)]), .inl (3, 6, .inr (.inr (.inr (.inr (fun _ => none))))), .inl (4, 4, .inr (.inr (.inr (.inr (fun _ => none))))), .inr (0, [.ref 4, .ref 5, .ref 6, .ref 7, .int (0 : Int32), .int (0 : Int32), .int (0 : Int32), .int (0 : Int32), .int (0 : Int32)]), .inl (0, 6, .inl (fun _ => 0)), .inl (0, 6, .inl (fun _ => 0)), .inl (0, 6, .inl (fun _ => 0)), .inl (0, 40, .inl (fun _ => 0)), .inr (0, [.ref 9, .ref 10, .ref 11, .ref 12, .int (0 : Int32), .int (0 : Int32), .int (0 : Int32), .int (0 : Int32), .int (0 : Int32)]), .inl (0, 6, .inl (fun _ => 0)), .inl (0, 6, .inl (fun _ => 0)), .inl (0, 6, .inl (fun _ => 0)), .inl (0, 40, .inl (fun _ => 0)), .inl (5, 3, .inr (.inr (.inr (.inr (fun _ => none))))), .inr (2, [.int (0 : Int32), .int (0 : Int32)]), .inr (1, [.ref 3, .ref 16]), .inl (0, 64, .inl (fun _ => 0)), .inl (0, 6, .inl (fun _ => 0)), .inr (3, [.ref 19, .int (-1 : Int32)]), .inl (0, 40, .inl (fun _ => 0))]) CA.1 CA.2.1 nd_Nj_init_122 rfl (nj_neI CA.1).2.2.2.2.2.1 kx_Row_init_i kn_Row kx_Row_init_c rfl (by decide +kernel) ca_Row_init ⟨rfl, rfl, rfl⟩ (by decide) rfl rfl rfl rfl rfl rfl rfl ⟨rfl, rfl, rfl, rfl⟩ rfl rfl rfl rfl (fun ad14 hg14 => ?_)
  show nj_V G ad14 19 263 125 [some (.ref 0), some (.int (0 : Int32))] [.ref 18, .int (0 : Int32), .ref 1] [.inr (5, [.ref 1, .ref 2, .ref 3, .ref 8, .ref 13, .ref 14, .ref 15, .ref 17, .int (0 : Int32), .int (0 : Int32), .long (0 : Int64), .long (1 : Int64)]), .inl (3, 6, .inr (.inr (.inr (.inr (fun _ => none))))), .inl (4, 4, .inr (.inr (.inr (.inr (fun _ => none))))), .inr (0, [.ref 4, .ref 5, .ref 6, .ref 7, .int (0 : Int32), .int (0 : Int32), .int (0 : Int32), .int (0 : Int32), .int (0 : Int32)]), .inl (0, 6, .inl (fun _ => 0)), .inl (0, 6, .inl (fun _ => 0)), .inl (0, 6, .inl (fun _ => 0)), .inl (0, 40, .inl (fun _ => 0)), .inr (0, [.ref 9, .ref 10, .ref 11, .ref 12, .int (0 : Int32), .int (0 : Int32), .int (0 : Int32), .int (0 : Int32), .int (0 : Int32)]), .inl (0, 6, .inl (fun _ => 0)), .inl (0, 6, .inl (fun _ => 0)), .inl (0, 6, .inl (fun _ => 0)), .inl (0, 40, .inl (fun _ => 0)), .inl (5, 3, .inr (.inr (.inr (.inr (fun _ => none))))), .inr (2, [.int (0 : Int32), .int (0 : Int32)]), .inr (1, [.ref 3, .ref 16]), .inl (0, 64, .inl (fun _ => 0)), .inl (0, 6, .inl (fun _ => 0)), .inr (3, [.ref 19, .int (-1 : Int32)]), .inl (0, 40, .inl (fun _ => 0))]
  refine vr_aast3 (j := 0) (hp' := [.inr (5, [.ref 1, .ref 2, .ref 3, .ref 8, .ref 13, .ref 14, .ref 15, .ref 17, .int (0 : Int32), .int (0 : Int32), .long (0 : Int64), .long (1 : Int64)]), .inl (3, 6, .inr (.inr (.inr (.inr (va_up (fun _ => none) 0 (some 18)))))), .inl (4, 4, .inr (.inr (.inr (.inr (fun _ => none))))), .inr (0, [.ref 4, .ref 5, .ref 6, .ref 7, .int (0 : Int32), .int (0 : Int32), .int (0 : Int32), .int (0 : Int32), .int (0 : Int32)]), .inl (0, 6, .inl (fun _ => 0)), .inl (0, 6, .inl (fun _ => 0)), .inl (0, 6, .inl (fun _ => 0)), .inl (0, 40, .inl (fun _ => 0)), .inr (0, [.ref 9, .ref 10, .ref 11, .ref 12, .int (0 : Int32), .int (0 : Int32), .int (0 : Int32), .int (0 : Int32), .int (0 : Int32)]), .inl (0, 6, .inl (fun _ => 0)), .inl (0, 6, .inl (fun _ => 0)), .inl (0, 6, .inl (fun _ => 0)), .inl (0, 40, .inl (fun _ => 0)), .inl (5, 3, .inr (.inr (.inr (.inr (fun _ => none))))), .inr (2, [.int (0 : Int32), .int (0 : Int32)]), .inr (1, [.ref 3, .ref 16]), .inl (0, 64, .inl (fun _ => 0)), .inl (0, 6, .inl (fun _ => 0)), .inr (3, [.ref 19, .int (-1 : Int32)]), .inl (0, 40, .inl (fun _ => 0))]) CA.1 nd_Nj_init_125 rfl rfl rfl rfl (nj_inc rfl) (by decide) rfl ?_
  refine vr_inc (v := (1 : Int32)) (ls' := [some (.ref 0), some (.int (1 : Int32))]) CA.1 nd_Nj_init_126 rfl rfl rfl (by decide) rfl ?_
  refine vr_go CA.1 nd_Nj_init_129 ?_
  refine vr_il CA.1 nd_Nj_init_107 rfl ?_
  refine vr_ic CA.1 nd_Nj_init_108 ?_
  refine vr_cm_ge CA.1 nd_Nj_init_110 (fun hc => absurd hc (by decide)) (fun _ => ?_)
  refine vr_al CA.1 nd_Nj_init_113 rfl ?_
  refine vr_get (v := .ref 1) CA.1 nd_Nj_init_114 rfl fl_Nj_11 (q := 0) rfl rfl ?_
  refine vr_il CA.1 nd_Nj_init_117 rfl ?_
  refine vr_newo (ci := 3) (N := 2) (T := nj_FRow) (fs := [.null, .int 0]) CA.1 nd_Nj_init_118 rfl kc_Nj_9 ki_Row kn_Row rfl nj_tRow kt_Row (by decide +kernel) rfl rfl rfl rfl rfl (fun ad15 hg15 => ?_)
  show nj_V G ad15 20 265 121 [some (.ref 0), some (.int (1 : Int32))] [.ref 20, .int (1 : Int32), .ref 1] [.inr (5, [.ref 1, .ref 2, .ref 3, .ref 8, .ref 13, .ref 14, .ref 15, .ref 17, .int (0 : Int32), .int (0 : Int32), .long (0 : Int64), .long (1 : Int64)]), .inl (3, 6, .inr (.inr (.inr (.inr (va_up (fun _ => none) 0 (some 18)))))), .inl (4, 4, .inr (.inr (.inr (.inr (fun _ => none))))), .inr (0, [.ref 4, .ref 5, .ref 6, .ref 7, .int (0 : Int32), .int (0 : Int32), .int (0 : Int32), .int (0 : Int32), .int (0 : Int32)]), .inl (0, 6, .inl (fun _ => 0)), .inl (0, 6, .inl (fun _ => 0)), .inl (0, 6, .inl (fun _ => 0)), .inl (0, 40, .inl (fun _ => 0)), .inr (0, [.ref 9, .ref 10, .ref 11, .ref 12, .int (0 : Int32), .int (0 : Int32), .int (0 : Int32), .int (0 : Int32), .int (0 : Int32)]), .inl (0, 6, .inl (fun _ => 0)), .inl (0, 6, .inl (fun _ => 0)), .inl (0, 6, .inl (fun _ => 0)), .inl (0, 40, .inl (fun _ => 0)), .inl (5, 3, .inr (.inr (.inr (.inr (fun _ => none))))), .inr (2, [.int (0 : Int32), .int (0 : Int32)]), .inr (1, [.ref 3, .ref 16]), .inl (0, 64, .inl (fun _ => 0)), .inl (0, 6, .inl (fun _ => 0)), .inr (3, [.ref 19, .int (-1 : Int32)]), .inl (0, 40, .inl (fun _ => 0)), .inr (3, [.null, .int 0])]
  refine vr_dup CA.1 nd_Nj_init_121 rfl rfl ?_
  refine vr_ctorN [20] 1 [] [.ref 20, .int (1 : Int32), .ref 1] (hp2 := [.inr (5, [.ref 1, .ref 2, .ref 3, .ref 8, .ref 13, .ref 14, .ref 15, .ref 17, .int (0 : Int32), .int (0 : Int32), .long (0 : Int64), .long (1 : Int64)]), .inl (3, 6, .inr (.inr (.inr (.inr (va_up (fun _ => none) 0 (some 18)))))), .inl (4, 4, .inr (.inr (.inr (.inr (fun _ => none))))), .inr (0, [.ref 4, .ref 5, .ref 6, .ref 7, .int (0 : Int32), .int (0 : Int32), .int (0 : Int32), .int (0 : Int32), .int (0 : Int32)]), .inl (0, 6, .inl (fun _ => 0)), .inl (0, 6, .inl (fun _ => 0)), .inl (0, 6, .inl (fun _ => 0)), .inl (0, 40, .inl (fun _ => 0)), .inr (0, [.ref 9, .ref 10, .ref 11, .ref 12, .int (0 : Int32), .int (0 : Int32), .int (0 : Int32), .int (0 : Int32), .int (0 : Int32)]), .inl (0, 6, .inl (fun _ => 0)), .inl (0, 6, .inl (fun _ => 0)), .inl (0, 6, .inl (fun _ => 0)), .inl (0, 40, .inl (fun _ => 0)), .inl (5, 3, .inr (.inr (.inr (.inr (fun _ => none))))), .inr (2, [.int (0 : Int32), .int (0 : Int32)]), .inr (1, [.ref 3, .ref 16]), .inl (0, 64, .inl (fun _ => 0)), .inl (0, 6, .inl (fun _ => 0)), .inr (3, [.ref 19, .int (-1 : Int32)]), .inl (0, 40, .inl (fun _ => 0)), .inr (3, [.ref 21, .int (-1 : Int32)]), .inl (0, 40, .inl (fun _ => 0))]) CA.1 CA.2.1 nd_Nj_init_122 rfl (nj_neI CA.1).2.2.2.2.2.1 kx_Row_init_i kn_Row kx_Row_init_c rfl (by decide +kernel) ca_Row_init ⟨rfl, rfl, rfl⟩ (by decide) rfl rfl rfl rfl rfl rfl rfl ⟨rfl, rfl, rfl, rfl⟩ rfl rfl rfl rfl (fun ad16 hg16 => ?_)
  show nj_V G ad16 21 305 125 [some (.ref 0), some (.int (1 : Int32))] [.ref 20, .int (1 : Int32), .ref 1] [.inr (5, [.ref 1, .ref 2, .ref 3, .ref 8, .ref 13, .ref 14, .ref 15, .ref 17, .int (0 : Int32), .int (0 : Int32), .long (0 : Int64), .long (1 : Int64)]), .inl (3, 6, .inr (.inr (.inr (.inr (va_up (fun _ => none) 0 (some 18)))))), .inl (4, 4, .inr (.inr (.inr (.inr (fun _ => none))))), .inr (0, [.ref 4, .ref 5, .ref 6, .ref 7, .int (0 : Int32), .int (0 : Int32), .int (0 : Int32), .int (0 : Int32), .int (0 : Int32)]), .inl (0, 6, .inl (fun _ => 0)), .inl (0, 6, .inl (fun _ => 0)), .inl (0, 6, .inl (fun _ => 0)), .inl (0, 40, .inl (fun _ => 0)), .inr (0, [.ref 9, .ref 10, .ref 11, .ref 12, .int (0 : Int32), .int (0 : Int32), .int (0 : Int32), .int (0 : Int32), .int (0 : Int32)]), .inl (0, 6, .inl (fun _ => 0)), .inl (0, 6, .inl (fun _ => 0)), .inl (0, 6, .inl (fun _ => 0)), .inl (0, 40, .inl (fun _ => 0)), .inl (5, 3, .inr (.inr (.inr (.inr (fun _ => none))))), .inr (2, [.int (0 : Int32), .int (0 : Int32)]), .inr (1, [.ref 3, .ref 16]), .inl (0, 64, .inl (fun _ => 0)), .inl (0, 6, .inl (fun _ => 0)), .inr (3, [.ref 19, .int (-1 : Int32)]), .inl (0, 40, .inl (fun _ => 0)), .inr (3, [.ref 21, .int (-1 : Int32)]), .inl (0, 40, .inl (fun _ => 0))]
  refine vr_aast3 (j := 1) (hp' := [.inr (5, [.ref 1, .ref 2, .ref 3, .ref 8, .ref 13, .ref 14, .ref 15, .ref 17, .int (0 : Int32), .int (0 : Int32), .long (0 : Int64), .long (1 : Int64)]), .inl (3, 6, .inr (.inr (.inr (.inr (va_up (va_up (fun _ => none) 0 (some 18)) 1 (some 20)))))), .inl (4, 4, .inr (.inr (.inr (.inr (fun _ => none))))), .inr (0, [.ref 4, .ref 5, .ref 6, .ref 7, .int (0 : Int32), .int (0 : Int32), .int (0 : Int32), .int (0 : Int32), .int (0 : Int32)]), .inl (0, 6, .inl (fun _ => 0)), .inl (0, 6, .inl (fun _ => 0)), .inl (0, 6, .inl (fun _ => 0)), .inl (0, 40, .inl (fun _ => 0)), .inr (0, [.ref 9, .ref 10, .ref 11, .ref 12, .int (0 : Int32), .int (0 : Int32), .int (0 : Int32), .int (0 : Int32), .int (0 : Int32)]), .inl (0, 6, .inl (fun _ => 0)), .inl (0, 6, .inl (fun _ => 0)), .inl (0, 6, .inl (fun _ => 0)), .inl (0, 40, .inl (fun _ => 0)), .inl (5, 3, .inr (.inr (.inr (.inr (fun _ => none))))), .inr (2, [.int (0 : Int32), .int (0 : Int32)]), .inr (1, [.ref 3, .ref 16]), .inl (0, 64, .inl (fun _ => 0)), .inl (0, 6, .inl (fun _ => 0)), .inr (3, [.ref 19, .int (-1 : Int32)]), .inl (0, 40, .inl (fun _ => 0)), .inr (3, [.ref 21, .int (-1 : Int32)]), .inl (0, 40, .inl (fun _ => 0))]) CA.1 nd_Nj_init_125 rfl rfl rfl rfl (nj_inc rfl) (by decide) rfl ?_
  refine vr_inc (v := (2 : Int32)) (ls' := [some (.ref 0), some (.int (2 : Int32))]) CA.1 nd_Nj_init_126 rfl rfl rfl (by decide) rfl ?_
  refine vr_go CA.1 nd_Nj_init_129 ?_
  refine vr_il CA.1 nd_Nj_init_107 rfl ?_
  refine vr_ic CA.1 nd_Nj_init_108 ?_
  refine vr_cm_ge CA.1 nd_Nj_init_110 (fun hc => absurd hc (by decide)) (fun _ => ?_)
  refine vr_al CA.1 nd_Nj_init_113 rfl ?_
  refine vr_get (v := .ref 1) CA.1 nd_Nj_init_114 rfl fl_Nj_11 (q := 0) rfl rfl ?_
  refine vr_il CA.1 nd_Nj_init_117 rfl ?_
  refine vr_newo (ci := 3) (N := 2) (T := nj_FRow) (fs := [.null, .int 0]) CA.1 nd_Nj_init_118 rfl kc_Nj_9 ki_Row kn_Row rfl nj_tRow kt_Row (by decide +kernel) rfl rfl rfl rfl rfl (fun ad17 hg17 => ?_)
  show nj_V G ad17 22 307 121 [some (.ref 0), some (.int (2 : Int32))] [.ref 22, .int (2 : Int32), .ref 1] [.inr (5, [.ref 1, .ref 2, .ref 3, .ref 8, .ref 13, .ref 14, .ref 15, .ref 17, .int (0 : Int32), .int (0 : Int32), .long (0 : Int64), .long (1 : Int64)]), .inl (3, 6, .inr (.inr (.inr (.inr (va_up (va_up (fun _ => none) 0 (some 18)) 1 (some 20)))))), .inl (4, 4, .inr (.inr (.inr (.inr (fun _ => none))))), .inr (0, [.ref 4, .ref 5, .ref 6, .ref 7, .int (0 : Int32), .int (0 : Int32), .int (0 : Int32), .int (0 : Int32), .int (0 : Int32)]), .inl (0, 6, .inl (fun _ => 0)), .inl (0, 6, .inl (fun _ => 0)), .inl (0, 6, .inl (fun _ => 0)), .inl (0, 40, .inl (fun _ => 0)), .inr (0, [.ref 9, .ref 10, .ref 11, .ref 12, .int (0 : Int32), .int (0 : Int32), .int (0 : Int32), .int (0 : Int32), .int (0 : Int32)]), .inl (0, 6, .inl (fun _ => 0)), .inl (0, 6, .inl (fun _ => 0)), .inl (0, 6, .inl (fun _ => 0)), .inl (0, 40, .inl (fun _ => 0)), .inl (5, 3, .inr (.inr (.inr (.inr (fun _ => none))))), .inr (2, [.int (0 : Int32), .int (0 : Int32)]), .inr (1, [.ref 3, .ref 16]), .inl (0, 64, .inl (fun _ => 0)), .inl (0, 6, .inl (fun _ => 0)), .inr (3, [.ref 19, .int (-1 : Int32)]), .inl (0, 40, .inl (fun _ => 0)), .inr (3, [.ref 21, .int (-1 : Int32)]), .inl (0, 40, .inl (fun _ => 0)), .inr (3, [.null, .int 0])]
  refine vr_dup CA.1 nd_Nj_init_121 rfl rfl ?_
  refine vr_ctorN [22] 1 [] [.ref 22, .int (2 : Int32), .ref 1] (hp2 := [.inr (5, [.ref 1, .ref 2, .ref 3, .ref 8, .ref 13, .ref 14, .ref 15, .ref 17, .int (0 : Int32), .int (0 : Int32), .long (0 : Int64), .long (1 : Int64)]), .inl (3, 6, .inr (.inr (.inr (.inr (va_up (va_up (fun _ => none) 0 (some 18)) 1 (some 20)))))), .inl (4, 4, .inr (.inr (.inr (.inr (fun _ => none))))), .inr (0, [.ref 4, .ref 5, .ref 6, .ref 7, .int (0 : Int32), .int (0 : Int32), .int (0 : Int32), .int (0 : Int32), .int (0 : Int32)]), .inl (0, 6, .inl (fun _ => 0)), .inl (0, 6, .inl (fun _ => 0)), .inl (0, 6, .inl (fun _ => 0)), .inl (0, 40, .inl (fun _ => 0)), .inr (0, [.ref 9, .ref 10, .ref 11, .ref 12, .int (0 : Int32), .int (0 : Int32), .int (0 : Int32), .int (0 : Int32), .int (0 : Int32)]), .inl (0, 6, .inl (fun _ => 0)), .inl (0, 6, .inl (fun _ => 0)), .inl (0, 6, .inl (fun _ => 0)), .inl (0, 40, .inl (fun _ => 0)), .inl (5, 3, .inr (.inr (.inr (.inr (fun _ => none))))), .inr (2, [.int (0 : Int32), .int (0 : Int32)]), .inr (1, [.ref 3, .ref 16]), .inl (0, 64, .inl (fun _ => 0)), .inl (0, 6, .inl (fun _ => 0)), .inr (3, [.ref 19, .int (-1 : Int32)]), .inl (0, 40, .inl (fun _ => 0)), .inr (3, [.ref 21, .int (-1 : Int32)]), .inl (0, 40, .inl (fun _ => 0)), .inr (3, [.ref 23, .int (-1 : Int32)]), .inl (0, 40, .inl (fun _ => 0))]) CA.1 CA.2.1 nd_Nj_init_122 rfl (nj_neI CA.1).2.2.2.2.2.1 kx_Row_init_i kn_Row kx_Row_init_c rfl (by decide +kernel) ca_Row_init ⟨rfl, rfl, rfl⟩ (by decide) rfl rfl rfl rfl rfl rfl rfl ⟨rfl, rfl, rfl, rfl⟩ rfl rfl rfl rfl (fun ad18 hg18 => ?_)
  show nj_V G ad18 23 347 125 [some (.ref 0), some (.int (2 : Int32))] [.ref 22, .int (2 : Int32), .ref 1] [.inr (5, [.ref 1, .ref 2, .ref 3, .ref 8, .ref 13, .ref 14, .ref 15, .ref 17, .int (0 : Int32), .int (0 : Int32), .long (0 : Int64), .long (1 : Int64)]), .inl (3, 6, .inr (.inr (.inr (.inr (va_up (va_up (fun _ => none) 0 (some 18)) 1 (some 20)))))), .inl (4, 4, .inr (.inr (.inr (.inr (fun _ => none))))), .inr (0, [.ref 4, .ref 5, .ref 6, .ref 7, .int (0 : Int32), .int (0 : Int32), .int (0 : Int32), .int (0 : Int32), .int (0 : Int32)]), .inl (0, 6, .inl (fun _ => 0)), .inl (0, 6, .inl (fun _ => 0)), .inl (0, 6, .inl (fun _ => 0)), .inl (0, 40, .inl (fun _ => 0)), .inr (0, [.ref 9, .ref 10, .ref 11, .ref 12, .int (0 : Int32), .int (0 : Int32), .int (0 : Int32), .int (0 : Int32), .int (0 : Int32)]), .inl (0, 6, .inl (fun _ => 0)), .inl (0, 6, .inl (fun _ => 0)), .inl (0, 6, .inl (fun _ => 0)), .inl (0, 40, .inl (fun _ => 0)), .inl (5, 3, .inr (.inr (.inr (.inr (fun _ => none))))), .inr (2, [.int (0 : Int32), .int (0 : Int32)]), .inr (1, [.ref 3, .ref 16]), .inl (0, 64, .inl (fun _ => 0)), .inl (0, 6, .inl (fun _ => 0)), .inr (3, [.ref 19, .int (-1 : Int32)]), .inl (0, 40, .inl (fun _ => 0)), .inr (3, [.ref 21, .int (-1 : Int32)]), .inl (0, 40, .inl (fun _ => 0)), .inr (3, [.ref 23, .int (-1 : Int32)]), .inl (0, 40, .inl (fun _ => 0))]
  refine vr_aast3 (j := 2) (hp' := [.inr (5, [.ref 1, .ref 2, .ref 3, .ref 8, .ref 13, .ref 14, .ref 15, .ref 17, .int (0 : Int32), .int (0 : Int32), .long (0 : Int64), .long (1 : Int64)]), .inl (3, 6, .inr (.inr (.inr (.inr (va_up (va_up (va_up (fun _ => none) 0 (some 18)) 1 (some 20)) 2 (some 22)))))), .inl (4, 4, .inr (.inr (.inr (.inr (fun _ => none))))), .inr (0, [.ref 4, .ref 5, .ref 6, .ref 7, .int (0 : Int32), .int (0 : Int32), .int (0 : Int32), .int (0 : Int32), .int (0 : Int32)]), .inl (0, 6, .inl (fun _ => 0)), .inl (0, 6, .inl (fun _ => 0)), .inl (0, 6, .inl (fun _ => 0)), .inl (0, 40, .inl (fun _ => 0)), .inr (0, [.ref 9, .ref 10, .ref 11, .ref 12, .int (0 : Int32), .int (0 : Int32), .int (0 : Int32), .int (0 : Int32), .int (0 : Int32)]), .inl (0, 6, .inl (fun _ => 0)), .inl (0, 6, .inl (fun _ => 0)), .inl (0, 6, .inl (fun _ => 0)), .inl (0, 40, .inl (fun _ => 0)), .inl (5, 3, .inr (.inr (.inr (.inr (fun _ => none))))), .inr (2, [.int (0 : Int32), .int (0 : Int32)]), .inr (1, [.ref 3, .ref 16]), .inl (0, 64, .inl (fun _ => 0)), .inl (0, 6, .inl (fun _ => 0)), .inr (3, [.ref 19, .int (-1 : Int32)]), .inl (0, 40, .inl (fun _ => 0)), .inr (3, [.ref 21, .int (-1 : Int32)]), .inl (0, 40, .inl (fun _ => 0)), .inr (3, [.ref 23, .int (-1 : Int32)]), .inl (0, 40, .inl (fun _ => 0))]) CA.1 nd_Nj_init_125 rfl rfl rfl rfl (nj_inc rfl) (by decide) rfl ?_
  refine vr_inc (v := (3 : Int32)) (ls' := [some (.ref 0), some (.int (3 : Int32))]) CA.1 nd_Nj_init_126 rfl rfl rfl (by decide) rfl ?_
  refine vr_go CA.1 nd_Nj_init_129 ?_
  refine vr_il CA.1 nd_Nj_init_107 rfl ?_
  refine vr_ic CA.1 nd_Nj_init_108 ?_
  refine vr_cm_ge CA.1 nd_Nj_init_110 (fun hc => absurd hc (by decide)) (fun _ => ?_)
  refine vr_al CA.1 nd_Nj_init_113 rfl ?_
  refine vr_get (v := .ref 1) CA.1 nd_Nj_init_114 rfl fl_Nj_11 (q := 0) rfl rfl ?_
  refine vr_il CA.1 nd_Nj_init_117 rfl ?_
  refine vr_newo (ci := 3) (N := 2) (T := nj_FRow) (fs := [.null, .int 0]) CA.1 nd_Nj_init_118 rfl kc_Nj_9 ki_Row kn_Row rfl nj_tRow kt_Row (by decide +kernel) rfl rfl rfl rfl rfl (fun ad19 hg19 => ?_)
  show nj_V G ad19 24 349 121 [some (.ref 0), some (.int (3 : Int32))] [.ref 24, .int (3 : Int32), .ref 1] [.inr (5, [.ref 1, .ref 2, .ref 3, .ref 8, .ref 13, .ref 14, .ref 15, .ref 17, .int (0 : Int32), .int (0 : Int32), .long (0 : Int64), .long (1 : Int64)]), .inl (3, 6, .inr (.inr (.inr (.inr (va_up (va_up (va_up (fun _ => none) 0 (some 18)) 1 (some 20)) 2 (some 22)))))), .inl (4, 4, .inr (.inr (.inr (.inr (fun _ => none))))), .inr (0, [.ref 4, .ref 5, .ref 6, .ref 7, .int (0 : Int32), .int (0 : Int32), .int (0 : Int32), .int (0 : Int32), .int (0 : Int32)]), .inl (0, 6, .inl (fun _ => 0)), .inl (0, 6, .inl (fun _ => 0)), .inl (0, 6, .inl (fun _ => 0)), .inl (0, 40, .inl (fun _ => 0)), .inr (0, [.ref 9, .ref 10, .ref 11, .ref 12, .int (0 : Int32), .int (0 : Int32), .int (0 : Int32), .int (0 : Int32), .int (0 : Int32)]), .inl (0, 6, .inl (fun _ => 0)), .inl (0, 6, .inl (fun _ => 0)), .inl (0, 6, .inl (fun _ => 0)), .inl (0, 40, .inl (fun _ => 0)), .inl (5, 3, .inr (.inr (.inr (.inr (fun _ => none))))), .inr (2, [.int (0 : Int32), .int (0 : Int32)]), .inr (1, [.ref 3, .ref 16]), .inl (0, 64, .inl (fun _ => 0)), .inl (0, 6, .inl (fun _ => 0)), .inr (3, [.ref 19, .int (-1 : Int32)]), .inl (0, 40, .inl (fun _ => 0)), .inr (3, [.ref 21, .int (-1 : Int32)]), .inl (0, 40, .inl (fun _ => 0)), .inr (3, [.ref 23, .int (-1 : Int32)]), .inl (0, 40, .inl (fun _ => 0)), .inr (3, [.null, .int 0])]
  refine vr_dup CA.1 nd_Nj_init_121 rfl rfl ?_
  refine vr_ctorN [24] 1 [] [.ref 24, .int (3 : Int32), .ref 1] (hp2 := [.inr (5, [.ref 1, .ref 2, .ref 3, .ref 8, .ref 13, .ref 14, .ref 15, .ref 17, .int (0 : Int32), .int (0 : Int32), .long (0 : Int64), .long (1 : Int64)]), .inl (3, 6, .inr (.inr (.inr (.inr (va_up (va_up (va_up (fun _ => none) 0 (some 18)) 1 (some 20)) 2 (some 22)))))), .inl (4, 4, .inr (.inr (.inr (.inr (fun _ => none))))), .inr (0, [.ref 4, .ref 5, .ref 6, .ref 7, .int (0 : Int32), .int (0 : Int32), .int (0 : Int32), .int (0 : Int32), .int (0 : Int32)]), .inl (0, 6, .inl (fun _ => 0)), .inl (0, 6, .inl (fun _ => 0)), .inl (0, 6, .inl (fun _ => 0)), .inl (0, 40, .inl (fun _ => 0)), .inr (0, [.ref 9, .ref 10, .ref 11, .ref 12, .int (0 : Int32), .int (0 : Int32), .int (0 : Int32), .int (0 : Int32), .int (0 : Int32)]), .inl (0, 6, .inl (fun _ => 0)), .inl (0, 6, .inl (fun _ => 0)), .inl (0, 6, .inl (fun _ => 0)), .inl (0, 40, .inl (fun _ => 0)), .inl (5, 3, .inr (.inr (.inr (.inr (fun _ => none))))), .inr (2, [.int (0 : Int32), .int (0 : Int32)]), .inr (1, [.ref 3, .ref 16]), .inl (0, 64, .inl (fun _ => 0)), .inl (0, 6, .inl (fun _ => 0)), .inr (3, [.ref 19, .int (-1 : Int32)]), .inl (0, 40, .inl (fun _ => 0)), .inr (3, [.ref 21, .int (-1 : Int32)]), .inl (0, 40, .inl (fun _ => 0)), .inr (3, [.ref 23, .int (-1 : Int32)]), .inl (0, 40, .inl (fun _ => 0)), .inr (3, [.ref 25, .int (-1 : Int32)]), .inl (0, 40, .inl (fun _ => 0))]) CA.1 CA.2.1 nd_Nj_init_122 rfl (nj_neI CA.1).2.2.2.2.2.1 kx_Row_init_i kn_Row kx_Row_init_c rfl (by decide +kernel) ca_Row_init ⟨rfl, rfl, rfl⟩ (by decide) rfl rfl rfl rfl rfl rfl rfl ⟨rfl, rfl, rfl, rfl⟩ rfl rfl rfl rfl (fun ad20 hg20 => ?_)
  show nj_V G ad20 25 389 125 [some (.ref 0), some (.int (3 : Int32))] [.ref 24, .int (3 : Int32), .ref 1] [.inr (5, [.ref 1, .ref 2, .ref 3, .ref 8, .ref 13, .ref 14, .ref 15, .ref 17, .int (0 : Int32), .int (0 : Int32), .long (0 : Int64), .long (1 : Int64)]), .inl (3, 6, .inr (.inr (.inr (.inr (va_up (va_up (va_up (fun _ => none) 0 (some 18)) 1 (some 20)) 2 (some 22)))))), .inl (4, 4, .inr (.inr (.inr (.inr (fun _ => none))))), .inr (0, [.ref 4, .ref 5, .ref 6, .ref 7, .int (0 : Int32), .int (0 : Int32), .int (0 : Int32), .int (0 : Int32), .int (0 : Int32)]), .inl (0, 6, .inl (fun _ => 0)), .inl (0, 6, .inl (fun _ => 0)), .inl (0, 6, .inl (fun _ => 0)), .inl (0, 40, .inl (fun _ => 0)), .inr (0, [.ref 9, .ref 10, .ref 11, .ref 12, .int (0 : Int32), .int (0 : Int32), .int (0 : Int32), .int (0 : Int32), .int (0 : Int32)]), .inl (0, 6, .inl (fun _ => 0)), .inl (0, 6, .inl (fun _ => 0)), .inl (0, 6, .inl (fun _ => 0)), .inl (0, 40, .inl (fun _ => 0)), .inl (5, 3, .inr (.inr (.inr (.inr (fun _ => none))))), .inr (2, [.int (0 : Int32), .int (0 : Int32)]), .inr (1, [.ref 3, .ref 16]), .inl (0, 64, .inl (fun _ => 0)), .inl (0, 6, .inl (fun _ => 0)), .inr (3, [.ref 19, .int (-1 : Int32)]), .inl (0, 40, .inl (fun _ => 0)), .inr (3, [.ref 21, .int (-1 : Int32)]), .inl (0, 40, .inl (fun _ => 0)), .inr (3, [.ref 23, .int (-1 : Int32)]), .inl (0, 40, .inl (fun _ => 0)), .inr (3, [.ref 25, .int (-1 : Int32)]), .inl (0, 40, .inl (fun _ => 0))]
  refine vr_aast3 (j := 3) (hp' := [.inr (5, [.ref 1, .ref 2, .ref 3, .ref 8, .ref 13, .ref 14, .ref 15, .ref 17, .int (0 : Int32), .int (0 : Int32), .long (0 : Int64), .long (1 : Int64)]), .inl (3, 6, .inr (.inr (.inr (.inr (va_up (va_up (va_up (va_up (fun _ => none) 0 (some 18)) 1 (some 20)) 2 (some 22)) 3 (some 24)))))), .inl (4, 4, .inr (.inr (.inr (.inr (fun _ => none))))), .inr (0, [.ref 4, .ref 5, .ref 6, .ref 7, .int (0 : Int32), .int (0 : Int32), .int (0 : Int32), .int (0 : Int32), .int (0 : Int32)]), .inl (0, 6, .inl (fun _ => 0)), .inl (0, 6, .inl (fun _ => 0)), .inl (0, 6, .inl (fun _ => 0)), .inl (0, 40, .inl (fun _ => 0)), .inr (0, [.ref 9, .ref 10, .ref 11, .ref 12, .int (0 : Int32), .int (0 : Int32), .int (0 : Int32), .int (0 : Int32), .int (0 : Int32)]), .inl (0, 6, .inl (fun _ => 0)), .inl (0, 6, .inl (fun _ => 0)), .inl (0, 6, .inl (fun _ => 0)), .inl (0, 40, .inl (fun _ => 0)), .inl (5, 3, .inr (.inr (.inr (.inr (fun _ => none))))), .inr (2, [.int (0 : Int32), .int (0 : Int32)]), .inr (1, [.ref 3, .ref 16]), .inl (0, 64, .inl (fun _ => 0)), .inl (0, 6, .inl (fun _ => 0)), .inr (3, [.ref 19, .int (-1 : Int32)]), .inl (0, 40, .inl (fun _ => 0)), .inr (3, [.ref 21, .int (-1 : Int32)]), .inl (0, 40, .inl (fun _ => 0)), .inr (3, [.ref 23, .int (-1 : Int32)]), .inl (0, 40, .inl (fun _ => 0)), .inr (3, [.ref 25, .int (-1 : Int32)]), .inl (0, 40, .inl (fun _ => 0))]) CA.1 nd_Nj_init_125 rfl rfl rfl rfl (nj_inc rfl) (by decide) rfl ?_
  refine vr_inc (v := (4 : Int32)) (ls' := [some (.ref 0), some (.int (4 : Int32))]) CA.1 nd_Nj_init_126 rfl rfl rfl (by decide) rfl ?_
  refine vr_go CA.1 nd_Nj_init_129 ?_
  refine vr_il CA.1 nd_Nj_init_107 rfl ?_
  refine vr_ic CA.1 nd_Nj_init_108 ?_
  refine vr_cm_ge CA.1 nd_Nj_init_110 (fun hc => absurd hc (by decide)) (fun _ => ?_)
  refine vr_al CA.1 nd_Nj_init_113 rfl ?_
  refine vr_get (v := .ref 1) CA.1 nd_Nj_init_114 rfl fl_Nj_11 (q := 0) rfl rfl ?_
  refine vr_il CA.1 nd_Nj_init_117 rfl ?_
  refine vr_newo (ci := 3) (N := 2) (T := nj_FRow) (fs := [.null, .int 0]) CA.1 nd_Nj_init_118 rfl kc_Nj_9 ki_Row kn_Row rfl nj_tRow kt_Row (by decide +kernel) rfl rfl rfl rfl rfl (fun ad21 hg21 => ?_)
  show nj_V G ad21 26 391 121 [some (.ref 0), some (.int (4 : Int32))] [.ref 26, .int (4 : Int32), .ref 1] [.inr (5, [.ref 1, .ref 2, .ref 3, .ref 8, .ref 13, .ref 14, .ref 15, .ref 17, .int (0 : Int32), .int (0 : Int32), .long (0 : Int64), .long (1 : Int64)]), .inl (3, 6, .inr (.inr (.inr (.inr (va_up (va_up (va_up (va_up (fun _ => none) 0 (some 18)) 1 (some 20)) 2 (some 22)) 3 (some 24)))))), .inl (4, 4, .inr (.inr (.inr (.inr (fun _ => none))))), .inr (0, [.ref 4, .ref 5, .ref 6, .ref 7, .int (0 : Int32), .int (0 : Int32), .int (0 : Int32), .int (0 : Int32), .int (0 : Int32)]), .inl (0, 6, .inl (fun _ => 0)), .inl (0, 6, .inl (fun _ => 0)), .inl (0, 6, .inl (fun _ => 0)), .inl (0, 40, .inl (fun _ => 0)), .inr (0, [.ref 9, .ref 10, .ref 11, .ref 12, .int (0 : Int32), .int (0 : Int32), .int (0 : Int32), .int (0 : Int32), .int (0 : Int32)]), .inl (0, 6, .inl (fun _ => 0)), .inl (0, 6, .inl (fun _ => 0)), .inl (0, 6, .inl (fun _ => 0)), .inl (0, 40, .inl (fun _ => 0)), .inl (5, 3, .inr (.inr (.inr (.inr (fun _ => none))))), .inr (2, [.int (0 : Int32), .int (0 : Int32)]), .inr (1, [.ref 3, .ref 16]), .inl (0, 64, .inl (fun _ => 0)), .inl (0, 6, .inl (fun _ => 0)), .inr (3, [.ref 19, .int (-1 : Int32)]), .inl (0, 40, .inl (fun _ => 0)), .inr (3, [.ref 21, .int (-1 : Int32)]), .inl (0, 40, .inl (fun _ => 0)), .inr (3, [.ref 23, .int (-1 : Int32)]), .inl (0, 40, .inl (fun _ => 0)), .inr (3, [.ref 25, .int (-1 : Int32)]), .inl (0, 40, .inl (fun _ => 0)), .inr (3, [.null, .int 0])]
  refine vr_dup CA.1 nd_Nj_init_121 rfl rfl ?_
  refine vr_ctorN [26] 1 [] [.ref 26, .int (4 : Int32), .ref 1] (hp2 := [.inr (5, [.ref 1, .ref 2, .ref 3, .ref 8, .ref 13, .ref 14, .ref 15, .ref 17, .int (0 : Int32), .int (0 : Int32), .long (0 : Int64), .long (1 : Int64)]), .inl (3, 6, .inr (.inr (.inr (.inr (va_up (va_up (va_up (va_up (fun _ => none) 0 (some 18)) 1 (some 20)) 2 (some 22)) 3 (some 24)))))), .inl (4, 4, .inr (.inr (.inr (.inr (fun _ => none))))), .inr (0, [.ref 4, .ref 5, .ref 6, .ref 7, .int (0 : Int32), .int (0 : Int32), .int (0 : Int32), .int (0 : Int32), .int (0 : Int32)]), .inl (0, 6, .inl (fun _ => 0)), .inl (0, 6, .inl (fun _ => 0)), .inl (0, 6, .inl (fun _ => 0)), .inl (0, 40, .inl (fun _ => 0)), .inr (0, [.ref 9, .ref 10, .ref 11, .ref 12, .int (0 : Int32), .int (0 : Int32), .int (0 : Int32), .int (0 : Int32), .int (0 : Int32)]), .inl (0, 6, .inl (fun _ => 0)), .inl (0, 6, .inl (fun _ => 0)), .inl (0, 6, .inl (fun _ => 0)), .inl (0, 40, .inl (fun _ => 0)), .inl (5, 3, .inr (.inr (.inr (.inr (fun _ => none))))), .inr (2, [.int (0 : Int32), .int (0 : Int32)]), .inr (1, [.ref 3, .ref 16]), .inl (0, 64, .inl (fun _ => 0)), .inl (0, 6, .inl (fun _ => 0)), .inr (3, [.ref 19, .int (-1 : Int32)]), .inl (0, 40, .inl (fun _ => 0)), .inr (3, [.ref 21, .int (-1 : Int32)]), .inl (0, 40, .inl (fun _ => 0)), .inr (3, [.ref 23, .int (-1 : Int32)]), .inl (0, 40, .inl (fun _ => 0)), .inr (3, [.ref 25, .int (-1 : Int32)]), .inl (0, 40, .inl (fun _ => 0)), .inr (3, [.ref 27, .int (-1 : Int32)]), .inl (0, 40, .inl (fun _ => 0))]) CA.1 CA.2.1 nd_Nj_init_122 rfl (nj_neI CA.1).2.2.2.2.2.1 kx_Row_init_i kn_Row kx_Row_init_c rfl (by decide +kernel) ca_Row_init ⟨rfl, rfl, rfl⟩ (by decide) rfl rfl rfl rfl rfl rfl rfl ⟨rfl, rfl, rfl, rfl⟩ rfl rfl rfl rfl (fun ad22 hg22 => ?_)
  show nj_V G ad22 27 431 125 [some (.ref 0), some (.int (4 : Int32))] [.ref 26, .int (4 : Int32), .ref 1] [.inr (5, [.ref 1, .ref 2, .ref 3, .ref 8, .ref 13, .ref 14, .ref 15, .ref 17, .int (0 : Int32), .int (0 : Int32), .long (0 : Int64), .long (1 : Int64)]), .inl (3, 6, .inr (.inr (.inr (.inr (va_up (va_up (va_up (va_up (fun _ => none) 0 (some 18)) 1 (some 20)) 2 (some 22)) 3 (some 24)))))), .inl (4, 4, .inr (.inr (.inr (.inr (fun _ => none))))), .inr (0, [.ref 4, .ref 5, .ref 6, .ref 7, .int (0 : Int32), .int (0 : Int32), .int (0 : Int32), .int (0 : Int32), .int (0 : Int32)]), .inl (0, 6, .inl (fun _ => 0)), .inl (0, 6, .inl (fun _ => 0)), .inl (0, 6, .inl (fun _ => 0)), .inl (0, 40, .inl (fun _ => 0)), .inr (0, [.ref 9, .ref 10, .ref 11, .ref 12, .int (0 : Int32), .int (0 : Int32), .int (0 : Int32), .int (0 : Int32), .int (0 : Int32)]), .inl (0, 6, .inl (fun _ => 0)), .inl (0, 6, .inl (fun _ => 0)), .inl (0, 6, .inl (fun _ => 0)), .inl (0, 40, .inl (fun _ => 0)), .inl (5, 3, .inr (.inr (.inr (.inr (fun _ => none))))), .inr (2, [.int (0 : Int32), .int (0 : Int32)]), .inr (1, [.ref 3, .ref 16]), .inl (0, 64, .inl (fun _ => 0)), .inl (0, 6, .inl (fun _ => 0)), .inr (3, [.ref 19, .int (-1 : Int32)]), .inl (0, 40, .inl (fun _ => 0)), .inr (3, [.ref 21, .int (-1 : Int32)]), .inl (0, 40, .inl (fun _ => 0)), .inr (3, [.ref 23, .int (-1 : Int32)]), .inl (0, 40, .inl (fun _ => 0)), .inr (3, [.ref 25, .int (-1 : Int32)]), .inl (0, 40, .inl (fun _ => 0)), .inr (3, [.ref 27, .int (-1 : Int32)]), .inl (0, 40, .inl (fun _ => 0))]
  refine vr_aast3 (j := 4) (hp' := [.inr (5, [.ref 1, .ref 2, .ref 3, .ref 8, .ref 13, .ref 14, .ref 15, .ref 17, .int (0 : Int32), .int (0 : Int32), .long (0 : Int64), .long (1 : Int64)]), .inl (3, 6, .inr (.inr (.inr (.inr (va_up (va_up (va_up (va_up (va_up (fun _ => none) 0 (some 18)) 1 (some 20)) 2 (some 22)) 3 (some 24)) 4 (some 26)))))), .inl (4, 4, .inr (.inr (.inr (.inr (fun _ => none))))), .inr (0, [.ref 4, .ref 5, .ref 6, .ref 7, .int (0 : Int32), .int (0 : Int32), .int (0 : Int32), .int (0 : Int32), .int (0 : Int32)]), .inl (0, 6, .inl (fun _ => 0)), .inl (0, 6, .inl (fun _ => 0)), .inl (0, 6, .inl (fun _ => 0)), .inl (0, 40, .inl (fun _ => 0)), .inr (0, [.ref 9, .ref 10, .ref 11, .ref 12, .int (0 : Int32), .int (0 : Int32), .int (0 : Int32), .int (0 : Int32), .int (0 : Int32)]), .inl (0, 6, .inl (fun _ => 0)), .inl (0, 6, .inl (fun _ => 0)), .inl (0, 6, .inl (fun _ => 0)), .inl (0, 40, .inl (fun _ => 0)), .inl (5, 3, .inr (.inr (.inr (.inr (fun _ => none))))), .inr (2, [.int (0 : Int32), .int (0 : Int32)]), .inr (1, [.ref 3, .ref 16]), .inl (0, 64, .inl (fun _ => 0)), .inl (0, 6, .inl (fun _ => 0)), .inr (3, [.ref 19, .int (-1 : Int32)]), .inl (0, 40, .inl (fun _ => 0)), .inr (3, [.ref 21, .int (-1 : Int32)]), .inl (0, 40, .inl (fun _ => 0)), .inr (3, [.ref 23, .int (-1 : Int32)]), .inl (0, 40, .inl (fun _ => 0)), .inr (3, [.ref 25, .int (-1 : Int32)]), .inl (0, 40, .inl (fun _ => 0)), .inr (3, [.ref 27, .int (-1 : Int32)]), .inl (0, 40, .inl (fun _ => 0))]) CA.1 nd_Nj_init_125 rfl rfl rfl rfl (nj_inc rfl) (by decide) rfl ?_
  refine vr_inc (v := (5 : Int32)) (ls' := [some (.ref 0), some (.int (5 : Int32))]) CA.1 nd_Nj_init_126 rfl rfl rfl (by decide) rfl ?_
  refine vr_go CA.1 nd_Nj_init_129 ?_
  refine vr_il CA.1 nd_Nj_init_107 rfl ?_
  refine vr_ic CA.1 nd_Nj_init_108 ?_
  refine vr_cm_ge CA.1 nd_Nj_init_110 (fun hc => absurd hc (by decide)) (fun _ => ?_)
  refine vr_al CA.1 nd_Nj_init_113 rfl ?_
  refine vr_get (v := .ref 1) CA.1 nd_Nj_init_114 rfl fl_Nj_11 (q := 0) rfl rfl ?_
  refine vr_il CA.1 nd_Nj_init_117 rfl ?_
  refine vr_newo (ci := 3) (N := 2) (T := nj_FRow) (fs := [.null, .int 0]) CA.1 nd_Nj_init_118 rfl kc_Nj_9 ki_Row kn_Row rfl nj_tRow kt_Row (by decide +kernel) rfl rfl rfl rfl rfl (fun ad23 hg23 => ?_)
  show nj_V G ad23 28 433 121 [some (.ref 0), some (.int (5 : Int32))] [.ref 28, .int (5 : Int32), .ref 1] [.inr (5, [.ref 1, .ref 2, .ref 3, .ref 8, .ref 13, .ref 14, .ref 15, .ref 17, .int (0 : Int32), .int (0 : Int32), .long (0 : Int64), .long (1 : Int64)]), .inl (3, 6, .inr (.inr (.inr (.inr (va_up (va_up (va_up (va_up (va_up (fun _ => none) 0 (some 18)) 1 (some 20)) 2 (some 22)) 3 (some 24)) 4 (some 26)))))), .inl (4, 4, .inr (.inr (.inr (.inr (fun _ => none))))), .inr (0, [.ref 4, .ref 5, .ref 6, .ref 7, .int (0 : Int32), .int (0 : Int32), .int (0 : Int32), .int (0 : Int32), .int (0 : Int32)]), .inl (0, 6, .inl (fun _ => 0)), .inl (0, 6, .inl (fun _ => 0)), .inl (0, 6, .inl (fun _ => 0)), .inl (0, 40, .inl (fun _ => 0)), .inr (0, [.ref 9, .ref 10, .ref 11, .ref 12, .int (0 : Int32), .int (0 : Int32), .int (0 : Int32), .int (0 : Int32), .int (0 : Int32)]), .inl (0, 6, .inl (fun _ => 0)), .inl (0, 6, .inl (fun _ => 0)), .inl (0, 6, .inl (fun _ => 0)), .inl (0, 40, .inl (fun _ => 0)), .inl (5, 3, .inr (.inr (.inr (.inr (fun _ => none))))), .inr (2, [.int (0 : Int32), .int (0 : Int32)]), .inr (1, [.ref 3, .ref 16]), .inl (0, 64, .inl (fun _ => 0)), .inl (0, 6, .inl (fun _ => 0)), .inr (3, [.ref 19, .int (-1 : Int32)]), .inl (0, 40, .inl (fun _ => 0)), .inr (3, [.ref 21, .int (-1 : Int32)]), .inl (0, 40, .inl (fun _ => 0)), .inr (3, [.ref 23, .int (-1 : Int32)]), .inl (0, 40, .inl (fun _ => 0)), .inr (3, [.ref 25, .int (-1 : Int32)]), .inl (0, 40, .inl (fun _ => 0)), .inr (3, [.ref 27, .int (-1 : Int32)]), .inl (0, 40, .inl (fun _ => 0)), .inr (3, [.null, .int 0])]
  refine vr_dup CA.1 nd_Nj_init_121 rfl rfl ?_
  refine vr_ctorN [28] 1 [] [.ref 28, .int (5 : Int32), .ref 1] (hp2 := [.inr (5, [.ref 1, .ref 2, .ref 3, .ref 8, .ref 13, .ref 14, .ref 15, .ref 17, .int (0 : Int32), .int (0 : Int32), .long (0 : Int64), .long (1 : Int64)]), .inl (3, 6, .inr (.inr (.inr (.inr (va_up (va_up (va_up (va_up (va_up (fun _ => none) 0 (some 18)) 1 (some 20)) 2 (some 22)) 3 (some 24)) 4 (some 26)))))), .inl (4, 4, .inr (.inr (.inr (.inr (fun _ => none))))), .inr (0, [.ref 4, .ref 5, .ref 6, .ref 7, .int (0 : Int32), .int (0 : Int32), .int (0 : Int32), .int (0 : Int32), .int (0 : Int32)]), .inl (0, 6, .inl (fun _ => 0)), .inl (0, 6, .inl (fun _ => 0)), .inl (0, 6, .inl (fun _ => 0)), .inl (0, 40, .inl (fun _ => 0)), .inr (0, [.ref 9, .ref 10, .ref 11, .ref 12, .int (0 : Int32), .int (0 : Int32), .int (0 : Int32), .int (0 : Int32), .int (0 : Int32)]), .inl (0, 6, .inl (fun _ => 0)), .inl (0, 6, .inl (fun _ => 0)), .inl (0, 6, .inl (fun _ => 0)), .inl (0, 40, .inl (fun _ => 0)), .inl (5, 3, .inr (.inr (.inr (.inr (fun _ => none))))), .inr (2, [.int (0 : Int32), .int (0 : Int32)]), .inr (1, [.ref 3, .ref 16]), .inl (0, 64, .inl (fun _ => 0)), .inl (0, 6, .inl (fun _ => 0)), .inr (3, [.ref 19, .int (-1 : Int32)]), .inl (0, 40, .inl (fun _ => 0)), .inr (3, [.ref 21, .int (-1 : Int32)]), .inl (0, 40, .inl (fun _ => 0)), .inr (3, [.ref 23, .int (-1 : Int32)]), .inl (0, 40, .inl (fun _ => 0)), .inr (3, [.ref 25, .int (-1 : Int32)]), .inl (0, 40, .inl (fun _ => 0)), .inr (3, [.ref 27, .int (-1 : Int32)]), .inl (0, 40, .inl (fun _ => 0)), .inr (3, [.ref 29, .int (-1 : Int32)]), .inl (0, 40, .inl (fun _ => 0))]) CA.1 CA.2.1 nd_Nj_init_122 rfl (nj_neI CA.1).2.2.2.2.2.1 kx_Row_init_i kn_Row kx_Row_init_c rfl (by decide +kernel) ca_Row_init ⟨rfl, rfl, rfl⟩ (by decide) rfl rfl rfl rfl rfl rfl rfl ⟨rfl, rfl, rfl, rfl⟩ rfl rfl rfl rfl (fun ad24 hg24 => ?_)
  show nj_V G ad24 29 473 125 [some (.ref 0), some (.int (5 : Int32))] [.ref 28, .int (5 : Int32), .ref 1] [.inr (5, [.ref 1, .ref 2, .ref 3, .ref 8, .ref 13, .ref 14, .ref 15, .ref 17, .int (0 : Int32), .int (0 : Int32), .long (0 : Int64), .long (1 : Int64)]), .inl (3, 6, .inr (.inr (.inr (.inr (va_up (va_up (va_up (va_up (va_up (fun _ => none) 0 (some 18)) 1 (some 20)) 2 (some 22)) 3 (some 24)) 4 (some 26)))))), .inl (4, 4, .inr (.inr (.inr (.inr (fun _ => none))))), .inr (0, [.ref 4, .ref 5, .ref 6, .ref 7, .int (0 : Int32), .int (0 : Int32), .int (0 : Int32), .int (0 : Int32), .int (0 : Int32)]), .inl (0, 6, .inl (fun _ => 0)), .inl (0, 6, .inl (fun _ => 0)), .inl (0, 6, .inl (fun _ => 0)), .inl (0, 40, .inl (fun _ => 0)), .inr (0, [.ref 9, .ref 10, .ref 11, .ref 12, .int (0 : Int32), .int (0 : Int32), .int (0 : Int32), .int (0 : Int32), .int (0 : Int32)]), .inl (0, 6, .inl (fun _ => 0)), .inl (0, 6, .inl (fun _ => 0)), .inl (0, 6, .inl (fun _ => 0)), .inl (0, 40, .inl (fun _ => 0)), .inl (5, 3, .inr (.inr (.inr (.inr (fun _ => none))))), .inr (2, [.int (0 : Int32), .int (0 : Int32)]), .inr (1, [.ref 3, .ref 16]), .inl (0, 64, .inl (fun _ => 0)), .inl (0, 6, .inl (fun _ => 0)), .inr (3, [.ref 19, .int (-1 : Int32)]), .inl (0, 40, .inl (fun _ => 0)), .inr (3, [.ref 21, .int (-1 : Int32)]), .inl (0, 40, .inl (fun _ => 0)), .inr (3, [.ref 23, .int (-1 : Int32)]), .inl (0, 40, .inl (fun _ => 0)), .inr (3, [.ref 25, .int (-1 : Int32)]), .inl (0, 40, .inl (fun _ => 0)), .inr (3, [.ref 27, .int (-1 : Int32)]), .inl (0, 40, .inl (fun _ => 0)), .inr (3, [.ref 29, .int (-1 : Int32)]), .inl (0, 40, .inl (fun _ => 0))]
  refine vr_aast3 (j := 5) (hp' := [.inr (5, [.ref 1, .ref 2, .ref 3, .ref 8, .ref 13, .ref 14, .ref 15, .ref 17, .int (0 : Int32), .int (0 : Int32), .long (0 : Int64), .long (1 : Int64)]), .inl (3, 6, .inr (.inr (.inr (.inr (va_up (va_up (va_up (va_up (va_up (va_up (fun _ => none) 0 (some 18)) 1 (some 20)) 2 (some 22)) 3 (some 24)) 4 (some 26)) 5 (some 28)))))), .inl (4, 4, .inr (.inr (.inr (.inr (fun _ => none))))), .inr (0, [.ref 4, .ref 5, .ref 6, .ref 7, .int (0 : Int32), .int (0 : Int32), .int (0 : Int32), .int (0 : Int32), .int (0 : Int32)]), .inl (0, 6, .inl (fun _ => 0)), .inl (0, 6, .inl (fun _ => 0)), .inl (0, 6, .inl (fun _ => 0)), .inl (0, 40, .inl (fun _ => 0)), .inr (0, [.ref 9, .ref 10, .ref 11, .ref 12, .int (0 : Int32), .int (0 : Int32), .int (0 : Int32), .int (0 : Int32), .int (0 : Int32)]), .inl (0, 6, .inl (fun _ => 0)), .inl (0, 6, .inl (fun _ => 0)), .inl (0, 6, .inl (fun _ => 0)), .inl (0, 40, .inl (fun _ => 0)), .inl (5, 3, .inr (.inr (.inr (.inr (fun _ => none))))), .inr (2, [.int (0 : Int32), .int (0 : Int32)]), .inr (1, [.ref 3, .ref 16]), .inl (0, 64, .inl (fun _ => 0)), .inl (0, 6, .inl (fun _ => 0)), .inr (3, [.ref 19, .int (-1 : Int32)]), .inl (0, 40, .inl (fun _ => 0)), .inr (3, [.ref 21, .int (-1 : Int32)]), .inl (0, 40, .inl (fun _ => 0)), .inr (3, [.ref 23, .int (-1 : Int32)]), .inl (0, 40, .inl (fun _ => 0)), .inr (3, [.ref 25, .int (-1 : Int32)]), .inl (0, 40, .inl (fun _ => 0)), .inr (3, [.ref 27, .int (-1 : Int32)]), .inl (0, 40, .inl (fun _ => 0)), .inr (3, [.ref 29, .int (-1 : Int32)]), .inl (0, 40, .inl (fun _ => 0))]) CA.1 nd_Nj_init_125 rfl rfl rfl rfl (nj_inc rfl) (by decide) rfl ?_
  refine vr_inc (v := (6 : Int32)) (ls' := [some (.ref 0), some (.int (6 : Int32))]) CA.1 nd_Nj_init_126 rfl rfl rfl (by decide) rfl ?_
  refine vr_go CA.1 nd_Nj_init_129 ?_
  refine vr_il CA.1 nd_Nj_init_107 rfl ?_
  refine vr_ic CA.1 nd_Nj_init_108 ?_
  refine vr_cm_ge CA.1 nd_Nj_init_110 (fun _ => ?_) (fun hc => absurd hc (by decide))
  refine vr_ic CA.1 nd_Nj_init_132 ?_
  refine vr_is (ls' := [some (.ref 0), some (.int (0 : Int32))]) CA.1 nd_Nj_init_133 rfl rfl ?_
  refine vr_il CA.1 nd_Nj_init_134 rfl ?_
  refine vr_ic CA.1 nd_Nj_init_135 ?_
  refine vr_cm_ge CA.1 nd_Nj_init_136 (fun hc => absurd hc (by decide)) (fun _ => ?_)
  refine vr_al CA.1 nd_Nj_init_139 rfl ?_
  refine vr_get (v := .ref 2) CA.1 nd_Nj_init_140 rfl fl_Nj_17 (q := 0) rfl rfl ?_
  refine vr_il CA.1 nd_Nj_init_143 rfl ?_
  refine vr_newo (ci := 4) (N := 2) (T := nj_FText) (fs := [.null, .int 0]) CA.1 nd_Nj_init_144 rfl kc_Nj_15 ki_Text kn_Text rfl nj_tText kt_Text (by decide +kernel) rfl rfl rfl rfl rfl (fun ad25 hg25 => ?_)
  show nj_V G ad25 30 475 147 [some (.ref 0), some (.int (0 : Int32))] [.ref 30, .int (0 : Int32), .ref 2] [.inr (5, [.ref 1, .ref 2, .ref 3, .ref 8, .ref 13, .ref 14, .ref 15, .ref 17, .int (0 : Int32), .int (0 : Int32), .long (0 : Int64), .long (1 : Int64)]), .inl (3, 6, .inr (.inr (.inr (.inr (va_up (va_up (va_up (va_up (va_up (va_up (fun _ => none) 0 (some 18)) 1 (some 20)) 2 (some 22)) 3 (some 24)) 4 (some 26)) 5 (some 28)))))), .inl (4, 4, .inr (.inr (.inr (.inr (fun _ => none))))), .inr (0, [.ref 4, .ref 5, .ref 6, .ref 7, .int (0 : Int32), .int (0 : Int32), .int (0 : Int32), .int (0 : Int32), .int (0 : Int32)]), .inl (0, 6, .inl (fun _ => 0)), .inl (0, 6, .inl (fun _ => 0)), .inl (0, 6, .inl (fun _ => 0)), .inl (0, 40, .inl (fun _ => 0)), .inr (0, [.ref 9, .ref 10, .ref 11, .ref 12, .int (0 : Int32), .int (0 : Int32), .int (0 : Int32), .int (0 : Int32), .int (0 : Int32)]), .inl (0, 6, .inl (fun _ => 0)), .inl (0, 6, .inl (fun _ => 0)), .inl (0, 6, .inl (fun _ => 0)), .inl (0, 40, .inl (fun _ => 0)), .inl (5, 3, .inr (.inr (.inr (.inr (fun _ => none))))), .inr (2, [.int (0 : Int32), .int (0 : Int32)]), .inr (1, [.ref 3, .ref 16]), .inl (0, 64, .inl (fun _ => 0)), .inl (0, 6, .inl (fun _ => 0)), .inr (3, [.ref 19, .int (-1 : Int32)]), .inl (0, 40, .inl (fun _ => 0)), .inr (3, [.ref 21, .int (-1 : Int32)]), .inl (0, 40, .inl (fun _ => 0)), .inr (3, [.ref 23, .int (-1 : Int32)]), .inl (0, 40, .inl (fun _ => 0)), .inr (3, [.ref 25, .int (-1 : Int32)]), .inl (0, 40, .inl (fun _ => 0)), .inr (3, [.ref 27, .int (-1 : Int32)]), .inl (0, 40, .inl (fun _ => 0)), .inr (3, [.ref 29, .int (-1 : Int32)]), .inl (0, 40, .inl (fun _ => 0)), .inr (4, [.null, .int 0])]
  refine vr_dup CA.1 nd_Nj_init_147 rfl rfl ?_
  refine vr_ctorN [30] 1 [] [.ref 30, .int (0 : Int32), .ref 2] (hp2 := [.inr (5, [.ref 1, .ref 2, .ref 3, .ref 8, .ref 13, .ref 14, .ref 15, .ref 17, .int (0 : Int32), .int (0 : Int32), .long (0 : Int64), .long (1 : Int64)]), .inl (3, 6, .inr (.inr (.inr (.inr (va_up (va_up (va_up (va_up (va_up (va_up (fun _ => none) 0 (some 18)) 1 (some 20)) 2 (some 22)) 3 (some 24)) 4 (some 26)) 5 (some 28)))))), .inl (4, 4, .inr (.inr (.inr (.inr (fun _ => none))))), .inr (0, [.ref 4, .ref 5, .ref 6, .ref 7, .int (0 : Int32), .int (0 : Int32), .int (0 : Int32), .int (0 : Int32), .int (0 : Int32)]), .inl (0, 6, .inl (fun _ => 0)), .inl (0, 6, .inl (fun _ => 0)), .inl (0, 6, .inl (fun _ => 0)), .inl (0, 40, .inl (fun _ => 0)), .inr (0, [.ref 9, .ref 10, .ref 11, .ref 12, .int (0 : Int32), .int (0 : Int32), .int (0 : Int32), .int (0 : Int32), .int (0 : Int32)]), .inl (0, 6, .inl (fun _ => 0)), .inl (0, 6, .inl (fun _ => 0)), .inl (0, 6, .inl (fun _ => 0)), .inl (0, 40, .inl (fun _ => 0)), .inl (5, 3, .inr (.inr (.inr (.inr (fun _ => none))))), .inr (2, [.int (0 : Int32), .int (0 : Int32)]), .inr (1, [.ref 3, .ref 16]), .inl (0, 64, .inl (fun _ => 0)), .inl (0, 6, .inl (fun _ => 0)), .inr (3, [.ref 19, .int (-1 : Int32)]), .inl (0, 40, .inl (fun _ => 0)), .inr (3, [.ref 21, .int (-1 : Int32)]), .inl (0, 40, .inl (fun _ => 0)), .inr (3, [.ref 23, .int (-1 : Int32)]), .inl (0, 40, .inl (fun _ => 0)), .inr (3, [.ref 25, .int (-1 : Int32)]), .inl (0, 40, .inl (fun _ => 0)), .inr (3, [.ref 27, .int (-1 : Int32)]), .inl (0, 40, .inl (fun _ => 0)), .inr (3, [.ref 29, .int (-1 : Int32)]), .inl (0, 40, .inl (fun _ => 0)), .inr (4, [.ref 31, .int (-1 : Int32)]), .inl (2, 60, .inl (fun _ => 0))]) CA.1 CA.2.1 nd_Nj_init_148 rfl (nj_neI CA.1).2.2.2.2.2.2 kx_Text_init_i kn_Text kx_Text_init_c rfl (by decide +kernel) ca_Text_init ⟨rfl, rfl, rfl⟩ (by decide) rfl rfl rfl rfl rfl rfl rfl ⟨rfl, rfl, rfl, rfl⟩ rfl rfl rfl rfl (fun ad26 hg26 => ?_)
  show nj_V G ad26 31 535 151 [some (.ref 0), some (.int (0 : Int32))] [.ref 30, .int (0 : Int32), .ref 2] [.inr (5, [.ref 1, .ref 2, .ref 3, .ref 8, .ref 13, .ref 14, .ref 15, .ref 17, .int (0 : Int32), .int (0 : Int32), .long (0 : Int64), .long (1 : Int64)]), .inl (3, 6, .inr (.inr (.inr (.inr (va_up (va_up (va_up (va_up (va_up (va_up (fun _ => none) 0 (some 18)) 1 (some 20)) 2 (some 22)) 3 (some 24)) 4 (some 26)) 5 (some 28)))))), .inl (4, 4, .inr (.inr (.inr (.inr (fun _ => none))))), .inr (0, [.ref 4, .ref 5, .ref 6, .ref 7, .int (0 : Int32), .int (0 : Int32), .int (0 : Int32), .int (0 : Int32), .int (0 : Int32)]), .inl (0, 6, .inl (fun _ => 0)), .inl (0, 6, .inl (fun _ => 0)), .inl (0, 6, .inl (fun _ => 0)), .inl (0, 40, .inl (fun _ => 0)), .inr (0, [.ref 9, .ref 10, .ref 11, .ref 12, .int (0 : Int32), .int (0 : Int32), .int (0 : Int32), .int (0 : Int32), .int (0 : Int32)]), .inl (0, 6, .inl (fun _ => 0)), .inl (0, 6, .inl (fun _ => 0)), .inl (0, 6, .inl (fun _ => 0)), .inl (0, 40, .inl (fun _ => 0)), .inl (5, 3, .inr (.inr (.inr (.inr (fun _ => none))))), .inr (2, [.int (0 : Int32), .int (0 : Int32)]), .inr (1, [.ref 3, .ref 16]), .inl (0, 64, .inl (fun _ => 0)), .inl (0, 6, .inl (fun _ => 0)), .inr (3, [.ref 19, .int (-1 : Int32)]), .inl (0, 40, .inl (fun _ => 0)), .inr (3, [.ref 21, .int (-1 : Int32)]), .inl (0, 40, .inl (fun _ => 0)), .inr (3, [.ref 23, .int (-1 : Int32)]), .inl (0, 40, .inl (fun _ => 0)), .inr (3, [.ref 25, .int (-1 : Int32)]), .inl (0, 40, .inl (fun _ => 0)), .inr (3, [.ref 27, .int (-1 : Int32)]), .inl (0, 40, .inl (fun _ => 0)), .inr (3, [.ref 29, .int (-1 : Int32)]), .inl (0, 40, .inl (fun _ => 0)), .inr (4, [.ref 31, .int (-1 : Int32)]), .inl (2, 60, .inl (fun _ => 0))]
  refine vr_aast4 (j := 0) (hp' := [.inr (5, [.ref 1, .ref 2, .ref 3, .ref 8, .ref 13, .ref 14, .ref 15, .ref 17, .int (0 : Int32), .int (0 : Int32), .long (0 : Int64), .long (1 : Int64)]), .inl (3, 6, .inr (.inr (.inr (.inr (va_up (va_up (va_up (va_up (va_up (va_up (fun _ => none) 0 (some 18)) 1 (some 20)) 2 (some 22)) 3 (some 24)) 4 (some 26)) 5 (some 28)))))), .inl (4, 4, .inr (.inr (.inr (.inr (va_up (fun _ => none) 0 (some 30)))))), .inr (0, [.ref 4, .ref 5, .ref 6, .ref 7, .int (0 : Int32), .int (0 : Int32), .int (0 : Int32), .int (0 : Int32), .int (0 : Int32)]), .inl (0, 6, .inl (fun _ => 0)), .inl (0, 6, .inl (fun _ => 0)), .inl (0, 6, .inl (fun _ => 0)), .inl (0, 40, .inl (fun _ => 0)), .inr (0, [.ref 9, .ref 10, .ref 11, .ref 12, .int (0 : Int32), .int (0 : Int32), .int (0 : Int32), .int (0 : Int32), .int (0 : Int32)]), .inl (0, 6, .inl (fun _ => 0)), .inl (0, 6, .inl (fun _ => 0)), .inl (0, 6, .inl (fun _ => 0)), .inl (0, 40, .inl (fun _ => 0)), .inl (5, 3, .inr (.inr (.inr (.inr (fun _ => none))))), .inr (2, [.int (0 : Int32), .int (0 : Int32)]), .inr (1, [.ref 3, .ref 16]), .inl (0, 64, .inl (fun _ => 0)), .inl (0, 6, .inl (fun _ => 0)), .inr (3, [.ref 19, .int (-1 : Int32)]), .inl (0, 40, .inl (fun _ => 0)), .inr (3, [.ref 21, .int (-1 : Int32)]), .inl (0, 40, .inl (fun _ => 0)), .inr (3, [.ref 23, .int (-1 : Int32)]), .inl (0, 40, .inl (fun _ => 0)), .inr (3, [.ref 25, .int (-1 : Int32)]), .inl (0, 40, .inl (fun _ => 0)), .inr (3, [.ref 27, .int (-1 : Int32)]), .inl (0, 40, .inl (fun _ => 0)), .inr (3, [.ref 29, .int (-1 : Int32)]), .inl (0, 40, .inl (fun _ => 0)), .inr (4, [.ref 31, .int (-1 : Int32)]), .inl (2, 60, .inl (fun _ => 0))]) CA.1 nd_Nj_init_151 rfl rfl rfl rfl (nj_inc rfl) (by decide) rfl ?_
  refine vr_inc (v := (1 : Int32)) (ls' := [some (.ref 0), some (.int (1 : Int32))]) CA.1 nd_Nj_init_152 rfl rfl rfl (by decide) rfl ?_
  refine vr_go CA.1 nd_Nj_init_155 ?_
  refine vr_il CA.1 nd_Nj_init_134 rfl ?_
  refine vr_ic CA.1 nd_Nj_init_135 ?_
  refine vr_cm_ge CA.1 nd_Nj_init_136 (fun hc => absurd hc (by decide)) (fun _ => ?_)
  refine vr_al CA.1 nd_Nj_init_139 rfl ?_
  refine vr_get (v := .ref 2) CA.1 nd_Nj_init_140 rfl fl_Nj_17 (q := 0) rfl rfl ?_
  refine vr_il CA.1 nd_Nj_init_143 rfl ?_
  refine vr_newo (ci := 4) (N := 2) (T := nj_FText) (fs := [.null, .int 0]) CA.1 nd_Nj_init_144 rfl kc_Nj_15 ki_Text kn_Text rfl nj_tText kt_Text (by decide +kernel) rfl rfl rfl rfl rfl (fun ad27 hg27 => ?_)
  show nj_V G ad27 32 537 147 [some (.ref 0), some (.int (1 : Int32))] [.ref 32, .int (1 : Int32), .ref 2] [.inr (5, [.ref 1, .ref 2, .ref 3, .ref 8, .ref 13, .ref 14, .ref 15, .ref 17, .int (0 : Int32), .int (0 : Int32), .long (0 : Int64), .long (1 : Int64)]), .inl (3, 6, .inr (.inr (.inr (.inr (va_up (va_up (va_up (va_up (va_up (va_up (fun _ => none) 0 (some 18)) 1 (some 20)) 2 (some 22)) 3 (some 24)) 4 (some 26)) 5 (some 28)))))), .inl (4, 4, .inr (.inr (.inr (.inr (va_up (fun _ => none) 0 (some 30)))))), .inr (0, [.ref 4, .ref 5, .ref 6, .ref 7, .int (0 : Int32), .int (0 : Int32), .int (0 : Int32), .int (0 : Int32), .int (0 : Int32)]), .inl (0, 6, .inl (fun _ => 0)), .inl (0, 6, .inl (fun _ => 0)), .inl (0, 6, .inl (fun _ => 0)), .inl (0, 40, .inl (fun _ => 0)), .inr (0, [.ref 9, .ref 10, .ref 11, .ref 12, .int (0 : Int32), .int (0 : Int32), .int (0 : Int32), .int (0 : Int32), .int (0 : Int32)]), .inl (0, 6, .inl (fun _ => 0)), .inl (0, 6, .inl (fun _ => 0)), .inl (0, 6, .inl (fun _ => 0)), .inl (0, 40, .inl (fun _ => 0)), .inl (5, 3, .inr (.inr (.inr (.inr (fun _ => none))))), .inr (2, [.int (0 : Int32), .int (0 : Int32)]), .inr (1, [.ref 3, .ref 16]), .inl (0, 64, .inl (fun _ => 0)), .inl (0, 6, .inl (fun _ => 0)), .inr (3, [.ref 19, .int (-1 : Int32)]), .inl (0, 40, .inl (fun _ => 0)), .inr (3, [.ref 21, .int (-1 : Int32)]), .inl (0, 40, .inl (fun _ => 0)), .inr (3, [.ref 23, .int (-1 : Int32)]), .inl (0, 40, .inl (fun _ => 0)), .inr (3, [.ref 25, .int (-1 : Int32)]), .inl (0, 40, .inl (fun _ => 0)), .inr (3, [.ref 27, .int (-1 : Int32)]), .inl (0, 40, .inl (fun _ => 0)), .inr (3, [.ref 29, .int (-1 : Int32)]), .inl (0, 40, .inl (fun _ => 0)), .inr (4, [.ref 31, .int (-1 : Int32)]), .inl (2, 60, .inl (fun _ => 0)), .inr (4, [.null, .int 0])]
  refine vr_dup CA.1 nd_Nj_init_147 rfl rfl ?_
  refine vr_ctorN [32] 1 [] [.ref 32, .int (1 : Int32), .ref 2] (hp2 := [.inr (5, [.ref 1, .ref 2, .ref 3, .ref 8, .ref 13, .ref 14, .ref 15, .ref 17, .int (0 : Int32), .int (0 : Int32), .long (0 : Int64), .long (1 : Int64)]), .inl (3, 6, .inr (.inr (.inr (.inr (va_up (va_up (va_up (va_up (va_up (va_up (fun _ => none) 0 (some 18)) 1 (some 20)) 2 (some 22)) 3 (some 24)) 4 (some 26)) 5 (some 28)))))), .inl (4, 4, .inr (.inr (.inr (.inr (va_up (fun _ => none) 0 (some 30)))))), .inr (0, [.ref 4, .ref 5, .ref 6, .ref 7, .int (0 : Int32), .int (0 : Int32), .int (0 : Int32), .int (0 : Int32), .int (0 : Int32)]), .inl (0, 6, .inl (fun _ => 0)), .inl (0, 6, .inl (fun _ => 0)), .inl (0, 6, .inl (fun _ => 0)), .inl (0, 40, .inl (fun _ => 0)), .inr (0, [.ref 9, .ref 10, .ref 11, .ref 12, .int (0 : Int32), .int (0 : Int32), .int (0 : Int32), .int (0 : Int32), .int (0 : Int32)]), .inl (0, 6, .inl (fun _ => 0)), .inl (0, 6, .inl (fun _ => 0)), .inl (0, 6, .inl (fun _ => 0)), .inl (0, 40, .inl (fun _ => 0)), .inl (5, 3, .inr (.inr (.inr (.inr (fun _ => none))))), .inr (2, [.int (0 : Int32), .int (0 : Int32)]), .inr (1, [.ref 3, .ref 16]), .inl (0, 64, .inl (fun _ => 0)), .inl (0, 6, .inl (fun _ => 0)), .inr (3, [.ref 19, .int (-1 : Int32)]), .inl (0, 40, .inl (fun _ => 0)), .inr (3, [.ref 21, .int (-1 : Int32)]), .inl (0, 40, .inl (fun _ => 0)), .inr (3, [.ref 23, .int (-1 : Int32)]), .inl (0, 40, .inl (fun _ => 0)), .inr (3, [.ref 25, .int (-1 : Int32)]), .inl (0, 40, .inl (fun _ => 0)), .inr (3, [.ref 27, .int (-1 : Int32)]), .inl (0, 40, .inl (fun _ => 0)), .inr (3, [.ref 29, .int (-1 : Int32)]), .inl (0, 40, .inl (fun _ => 0)), .inr (4, [.ref 31, .int (-1 : Int32)]), .inl (2, 60, .inl (fun _ => 0)), .inr (4, [.ref 33, .int (-1 : Int32)]), .inl (2, 60, .inl (fun _ => 0))]) CA.1 CA.2.1 nd_Nj_init_148 rfl (nj_neI CA.1).2.2.2.2.2.2 kx_Text_init_i kn_Text kx_Text_init_c rfl (by decide +kernel) ca_Text_init ⟨rfl, rfl, rfl⟩ (by decide) rfl rfl rfl rfl rfl rfl rfl ⟨rfl, rfl, rfl, rfl⟩ rfl rfl rfl rfl (fun ad28 hg28 => ?_)
  show nj_V G ad28 33 597 151 [some (.ref 0), some (.int (1 : Int32))] [.ref 32, .int (1 : Int32), .ref 2] [.inr (5, [.ref 1, .ref 2, .ref 3, .ref 8, .ref 13, .ref 14, .ref 15, .ref 17, .int (0 : Int32), .int (0 : Int32), .long (0 : Int64), .long (1 : Int64)]), .inl (3, 6, .inr (.inr (.inr (.inr (va_up (va_up (va_up (va_up (va_up (va_up (fun _ => none) 0 (some 18)) 1 (some 20)) 2 (some 22)) 3 (some 24)) 4 (some 26)) 5 (some 28)))))), .inl (4, 4, .inr (.inr (.inr (.inr (va_up (fun _ => none) 0 (some 30)))))), .inr (0, [.ref 4, .ref 5, .ref 6, .ref 7, .int (0 : Int32), .int (0 : Int32), .int (0 : Int32), .int (0 : Int32), .int (0 : Int32)]), .inl (0, 6, .inl (fun _ => 0)), .inl (0, 6, .inl (fun _ => 0)), .inl (0, 6, .inl (fun _ => 0)), .inl (0, 40, .inl (fun _ => 0)), .inr (0, [.ref 9, .ref 10, .ref 11, .ref 12, .int (0 : Int32), .int (0 : Int32), .int (0 : Int32), .int (0 : Int32), .int (0 : Int32)]), .inl (0, 6, .inl (fun _ => 0)), .inl (0, 6, .inl (fun _ => 0)), .inl (0, 6, .inl (fun _ => 0)), .inl (0, 40, .inl (fun _ => 0)), .inl (5, 3, .inr (.inr (.inr (.inr (fun _ => none))))), .inr (2, [.int (0 : Int32), .int (0 : Int32)]), .inr (1, [.ref 3, .ref 16]), .inl (0, 64, .inl (fun _ => 0)), .inl (0, 6, .inl (fun _ => 0)), .inr (3, [.ref 19, .int (-1 : Int32)]), .inl (0, 40, .inl (fun _ => 0)), .inr (3, [.ref 21, .int (-1 : Int32)]), .inl (0, 40, .inl (fun _ => 0)), .inr (3, [.ref 23, .int (-1 : Int32)]), .inl (0, 40, .inl (fun _ => 0)), .inr (3, [.ref 25, .int (-1 : Int32)]), .inl (0, 40, .inl (fun _ => 0)), .inr (3, [.ref 27, .int (-1 : Int32)]), .inl (0, 40, .inl (fun _ => 0)), .inr (3, [.ref 29, .int (-1 : Int32)]), .inl (0, 40, .inl (fun _ => 0)), .inr (4, [.ref 31, .int (-1 : Int32)]), .inl (2, 60, .inl (fun _ => 0)), .inr (4, [.ref 33, .int (-1 : Int32)]), .inl (2, 60, .inl (fun _ => 0))]
  refine vr_aast4 (j := 1) (hp' := [.inr (5, [.ref 1, .ref 2, .ref 3, .ref 8, .ref 13, .ref 14, .ref 15, .ref 17, .int (0 : Int32), .int (0 : Int32), .long (0 : Int64), .long (1 : Int64)]), .inl (3, 6, .inr (.inr (.inr (.inr (va_up (va_up (va_up (va_up (va_up (va_up (fun _ => none) 0 (some 18)) 1 (some 20)) 2 (some 22)) 3 (some 24)) 4 (some 26)) 5 (some 28)))))), .inl (4, 4, .inr (.inr (.inr (.inr (va_up (va_up (fun _ => none) 0 (some 30)) 1 (some 32)))))), .inr (0, [.ref 4, .ref 5, .ref 6, .ref 7, .int (0 : Int32), .int (0 : Int32), .int (0 : Int32), .int (0 : Int32), .int (0 : Int32)]), .inl (0, 6, .inl (fun _ => 0)), .inl (0, 6, .inl (fun _ => 0)), .inl (0, 6, .inl (fun _ => 0)), .inl (0, 40, .inl (fun _ => 0)), .inr (0, [.ref 9, .ref 10, .ref 11, .ref 12, .int (0 : Int32), .int (0 : Int32), .int (0 : Int32), .int (0 : Int32), .int (0 : Int32)]), .inl (0, 6, .inl (fun _ => 0)), .inl (0, 6, .inl (fun _ => 0)), .inl (0, 6, .inl (fun _ => 0)), .inl (0, 40, .inl (fun _ => 0)), .inl (5, 3, .inr (.inr (.inr (.inr (fun _ => none))))), .inr (2, [.int (0 : Int32), .int (0 : Int32)]), .inr (1, [.ref 3, .ref 16]), .inl (0, 64, .inl (fun _ => 0)), .inl (0, 6, .inl (fun _ => 0)), .inr (3, [.ref 19, .int (-1 : Int32)]), .inl (0, 40, .inl (fun _ => 0)), .inr (3, [.ref 21, .int (-1 : Int32)]), .inl (0, 40, .inl (fun _ => 0)), .inr (3, [.ref 23, .int (-1 : Int32)]), .inl (0, 40, .inl (fun _ => 0)), .inr (3, [.ref 25, .int (-1 : Int32)]), .inl (0, 40, .inl (fun _ => 0)), .inr (3, [.ref 27, .int (-1 : Int32)]), .inl (0, 40, .inl (fun _ => 0)), .inr (3, [.ref 29, .int (-1 : Int32)]), .inl (0, 40, .inl (fun _ => 0)), .inr (4, [.ref 31, .int (-1 : Int32)]), .inl (2, 60, .inl (fun _ => 0)), .inr (4, [.ref 33, .int (-1 : Int32)]), .inl (2, 60, .inl (fun _ => 0))]) CA.1 nd_Nj_init_151 rfl rfl rfl rfl (nj_inc rfl) (by decide) rfl ?_
  refine vr_inc (v := (2 : Int32)) (ls' := [some (.ref 0), some (.int (2 : Int32))]) CA.1 nd_Nj_init_152 rfl rfl rfl (by decide) rfl ?_
  refine vr_go CA.1 nd_Nj_init_155 ?_
  refine vr_il CA.1 nd_Nj_init_134 rfl ?_
  refine vr_ic CA.1 nd_Nj_init_135 ?_
  refine vr_cm_ge CA.1 nd_Nj_init_136 (fun hc => absurd hc (by decide)) (fun _ => ?_)
  refine vr_al CA.1 nd_Nj_init_139 rfl ?_
  refine vr_get (v := .ref 2) CA.1 nd_Nj_init_140 rfl fl_Nj_17 (q := 0) rfl rfl ?_
  refine vr_il CA.1 nd_Nj_init_143 rfl ?_
  refine vr_newo (ci := 4) (N := 2) (T := nj_FText) (fs := [.null, .int 0]) CA.1 nd_Nj_init_144 rfl kc_Nj_15 ki_Text kn_Text rfl nj_tText kt_Text (by decide +kernel) rfl rfl rfl rfl rfl (fun ad29 hg29 => ?_)
  show nj_V G ad29 34 599 147 [some (.ref 0), some (.int (2 : Int32))] [.ref 34, .int (2 : Int32), .ref 2] [.inr (5, [.ref 1, .ref 2, .ref 3, .ref 8, .ref 13, .ref 14, .ref 15, .ref 17, .int (0 : Int32), .int (0 : Int32), .long (0 : Int64), .long (1 : Int64)]), .inl (3, 6, .inr (.inr (.inr (.inr (va_up (va_up (va_up (va_up (va_up (va_up (fun _ => none) 0 (some 18)) 1 (some 20)) 2 (some 22)) 3 (some 24)) 4 (some 26)) 5 (some 28)))))), .inl (4, 4, .inr (.inr (.inr (.inr (va_up (va_up (fun _ => none) 0 (some 30)) 1 (some 32)))))), .inr (0, [.ref 4, .ref 5, .ref 6, .ref 7, .int (0 : Int32), .int (0 : Int32), .int (0 : Int32), .int (0 : Int32), .int (0 : Int32)]), .inl (0, 6, .inl (fun _ => 0)), .inl (0, 6, .inl (fun _ => 0)), .inl (0, 6, .inl (fun _ => 0)), .inl (0, 40, .inl (fun _ => 0)), .inr (0, [.ref 9, .ref 10, .ref 11, .ref 12, .int (0 : Int32), .int (0 : Int32), .int (0 : Int32), .int (0 : Int32), .int (0 : Int32)]), .inl (0, 6, .inl (fun _ => 0)), .inl (0, 6, .inl (fun _ => 0)), .inl (0, 6, .inl (fun _ => 0)), .inl (0, 40, .inl (fun _ => 0)), .inl (5, 3, .inr (.inr (.inr (.inr (fun _ => none))))), .inr (2, [.int (0 : Int32), .int (0 : Int32)]), .inr (1, [.ref 3, .ref 16]), .inl (0, 64, .inl (fun _ => 0)), .inl (0, 6, .inl (fun _ => 0)), .inr (3, [.ref 19, .int (-1 : Int32)]), .inl (0, 40, .inl (fun _ => 0)), .inr (3, [.ref 21, .int (-1 : Int32)]), .inl (0, 40, .inl (fun _ => 0)), .inr (3, [.ref 23, .int (-1 : Int32)]), .inl (0, 40, .inl (fun _ => 0)), .inr (3, [.ref 25, .int (-1 : Int32)]), .inl (0, 40, .inl (fun _ => 0)), .inr (3, [.ref 27, .int (-1 : Int32)]), .inl (0, 40, .inl (fun _ => 0)), .inr (3, [.ref 29, .int (-1 : Int32)]), .inl (0, 40, .inl (fun _ => 0)), .inr (4, [.ref 31, .int (-1 : Int32)]), .inl (2, 60, .inl (fun _ => 0)), .inr (4, [.ref 33, .int (-1 : Int32)]), .inl (2, 60, .inl (fun _ => 0)), .inr (4, [.null, .int 0])]
  refine vr_dup CA.1 nd_Nj_init_147 rfl rfl ?_
  refine vr_ctorN [34] 1 [] [.ref 34, .int (2 : Int32), .ref 2] (hp2 := [.inr (5, [.ref 1, .ref 2, .ref 3, .ref 8, .ref 13, .ref 14, .ref 15, .ref 17, .int (0 : Int32), .int (0 : Int32), .long (0 : Int64), .long (1 : Int64)]), .inl (3, 6, .inr (.inr (.inr (.inr (va_up (va_up (va_up (va_up (va_up (va_up (fun _ => none) 0 (some 18)) 1 (some 20)) 2 (some 22)) 3 (some 24)) 4 (some 26)) 5 (some 28)))))), .inl (4, 4, .inr (.inr (.inr (.inr (va_up (va_up (fun _ => none) 0 (some 30)) 1 (some 32)))))), .inr (0, [.ref 4, .ref 5, .ref 6, .ref 7, .int (0 : Int32), .int (0 : Int32), .int (0 : Int32), .int (0 : Int32), .int (0 : Int32)]), .inl (0, 6, .inl (fun _ => 0)), .inl (0, 6, .inl (fun _ => 0)), .inl (0, 6, .inl (fun _ => 0)), .inl (0, 40, .inl (fun _ => 0)), .inr (0, [.ref 9, .ref 10, .ref 11, .ref 12, .int (0 : Int32), .int (0 : Int32), .int (0 : Int32), .int (0 : Int32), .int (0 : Int32)]), .inl (0, 6, .inl (fun _ => 0)), .inl (0, 6, .inl (fun _ => 0)), .inl (0, 6, .inl (fun _ => 0)), .inl (0, 40, .inl (fun _ => 0)), .inl (5, 3, .inr (.inr (.inr (.inr (fun _ => none))))), .inr (2, [.int (0 : Int32), .int (0 : Int32)]), .inr (1, [.ref 3, .ref 16]), .inl (0, 64, .inl (fun _ => 0)), .inl (0, 6, .inl (fun _ => 0)), .inr (3, [.ref 19, .int (-1 : Int32)]), .inl (0, 40, .inl (fun _ => 0)), .inr (3, [.ref 21, .int (-1 : Int32)]), .inl (0, 40, .inl (fun _ => 0)), .inr (3, [.ref 23, .int (-1 : Int32)]), .inl (0, 40, .inl (fun _ => 0)), .inr (3, [.ref 25, .int (-1 : Int32)]), .inl (0, 40, .inl (fun _ => 0)), .inr (3, [.ref 27, .int (-1 : Int32)]), .inl (0, 40, .inl (fun _ => 0)), .inr (3, [.ref 29, .int (-1 : Int32)]), .inl (0, 40, .inl (fun _ => 0)), .inr (4, [.ref 31, .int (-1 : Int32)]), .inl (2, 60, .inl (fun _ => 0)), .inr (4, [.ref 33, .int (-1 : Int32)]), .inl (2, 60, .inl (fun _ => 0)), .inr (4, [.ref 35, .int (-1 : Int32)]), .inl (2, 60, .inl (fun _ => 0))]) CA.1 CA.2.1 nd_Nj_init_148 rfl (nj_neI CA.1).2.2.2.2.2.2 kx_Text_init_i kn_Text kx_Text_init_c rfl (by decide +kernel) ca_Text_init ⟨rfl, rfl, rfl⟩ (by decide) rfl rfl rfl rfl rfl rfl rfl ⟨rfl, rfl, rfl, rfl⟩ rfl rfl rfl rfl (fun ad30 hg30 => ?_)
  show nj_V G ad30 35 659 151 [some (.ref 0), some (.int (2 : Int32))] [.ref 34, .int (2 : Int32), .ref 2] [.inr (5, [.ref 1, .ref 2, .ref 3, .ref 8, .ref 13, .ref 14, .ref 15, .ref 17, .int (0 : Int32), .int (0 : Int32), .long (0 : Int64), .long (1 : Int64)]), .inl (3, 6, .inr (.inr (.inr (.inr (va_up (va_up (va_up (va_up (va_up (va_up (fun _ => none) 0 (some 18)) 1 (some 20)) 2 (some 22)) 3 (some 24)) 4 (some 26)) 5 (some 28)))))), .inl (4, 4, .inr (.inr (.inr (.inr (va_up (va_up (fun _ => none) 0 (some 30)) 1 (some 32)))))), .inr (0, [.ref 4, .ref 5, .ref 6, .ref 7, .int (0 : Int32), .int (0 : Int32), .int (0 : Int32), .int (0 : Int32), .int (0 : Int32)]), .inl (0, 6, .inl (fun _ => 0)), .inl (0, 6, .inl (fun _ => 0)), .inl (0, 6, .inl (fun _ => 0)), .inl (0, 40, .inl (fun _ => 0)), .inr (0, [.ref 9, .ref 10, .ref 11, .ref 12, .int (0 : Int32), .int (0 : Int32), .int (0 : Int32), .int (0 : Int32), .int (0 : Int32)]), .inl (0, 6, .inl (fun _ => 0)), .inl (0, 6, .inl (fun _ => 0)), .inl (0, 6, .inl (fun _ => 0)), .inl (0, 40, .inl (fun _ => 0)), .inl (5, 3, .inr (.inr (.inr (.inr (fun _ => none))))), .inr (2, [.int (0 : Int32), .int (0 : Int32)]), .inr (1, [.ref 3, .ref 16]), .inl (0, 64, .inl (fun _ => 0)), .inl (0, 6, .inl (fun _ => 0)), .inr (3, [.ref 19, .int (-1 : Int32)]), .inl (0, 40, .inl (fun _ => 0)), .inr (3, [.ref 21, .int (-1 : Int32)]), .inl (0, 40, .inl (fun _ => 0)), .inr (3, [.ref 23, .int (-1 : Int32)]), .inl (0, 40, .inl (fun _ => 0)), .inr (3, [.ref 25, .int (-1 : Int32)]), .inl (0, 40, .inl (fun _ => 0)), .inr (3, [.ref 27, .int (-1 : Int32)]), .inl (0, 40, .inl (fun _ => 0)), .inr (3, [.ref 29, .int (-1 : Int32)]), .inl (0, 40, .inl (fun _ => 0)), .inr (4, [.ref 31, .int (-1 : Int32)]), .inl (2, 60, .inl (fun _ => 0)), .inr (4, [.ref 33, .int (-1 : Int32)]), .inl (2, 60, .inl (fun _ => 0)), .inr (4, [.ref 35, .int (-1 : Int32)]), .inl (2, 60, .inl (fun _ => 0))]
  refine vr_aast4 (j := 2) (hp' := [.inr (5, [.ref 1, .ref 2, .ref 3, .ref 8, .ref 13, .ref 14, .ref 15, .ref 17, .int (0 : Int32), .int (0 : Int32), .long (0 : Int64), .long (1 : Int64)]), .inl (3, 6, .inr (.inr (.inr (.inr (va_up (va_up (va_up (va_up (va_up (va_up (fun _ => none) 0 (some 18)) 1 (some 20)) 2 (some 22)) 3 (some 24)) 4 (some 26)) 5 (some 28)))))), .inl (4, 4, .inr (.inr (.inr (.inr (va_up (va_up (va_up (fun _ => none) 0 (some 30)) 1 (some 32)) 2 (some 34)))))), .inr (0, [.ref 4, .ref 5, .ref 6, .ref 7, .int (0 : Int32), .int (0 : Int32), .int (0 : Int32), .int (0 : Int32), .int (0 : Int32)]), .inl (0, 6, .inl (fun _ => 0)), .inl (0, 6, .inl (fun _ => 0)), .inl (0, 6, .inl (fun _ => 0)), .inl (0, 40, .inl (fun _ => 0)), .inr (0, [.ref 9, .ref 10, .ref 11, .ref 12, .int (0 : Int32), .int (0 : Int32), .int (0 : Int32), .int (0 : Int32), .int (0 : Int32)]), .inl (0, 6, .inl (fun _ => 0)), .inl (0, 6, .inl (fun _ => 0)), .inl (0, 6, .inl (fun _ => 0)), .inl (0, 40, .inl (fun _ => 0)), .inl (5, 3, .inr (.inr (.inr (.inr (fun _ => none))))), .inr (2, [.int (0 : Int32), .int (0 : Int32)]), .inr (1, [.ref 3, .ref 16]), .inl (0, 64, .inl (fun _ => 0)), .inl (0, 6, .inl (fun _ => 0)), .inr (3, [.ref 19, .int (-1 : Int32)]), .inl (0, 40, .inl (fun _ => 0)), .inr (3, [.ref 21, .int (-1 : Int32)]), .inl (0, 40, .inl (fun _ => 0)), .inr (3, [.ref 23, .int (-1 : Int32)]), .inl (0, 40, .inl (fun _ => 0)), .inr (3, [.ref 25, .int (-1 : Int32)]), .inl (0, 40, .inl (fun _ => 0)), .inr (3, [.ref 27, .int (-1 : Int32)]), .inl (0, 40, .inl (fun _ => 0)), .inr (3, [.ref 29, .int (-1 : Int32)]), .inl (0, 40, .inl (fun _ => 0)), .inr (4, [.ref 31, .int (-1 : Int32)]), .inl (2, 60, .inl (fun _ => 0)), .inr (4, [.ref 33, .int (-1 : Int32)]), .inl (2, 60, .inl (fun _ => 0)), .inr (4, [.ref 35, .int (-1 : Int32)]), .inl (2, 60, .inl (fun _ => 0))]) CA.1 nd_Nj_init_151 rfl rfl rfl rfl (nj_inc rfl) (by decide) rfl ?_
  refine vr_inc (v := (3 : Int32)) (ls' := [some (.ref 0), some (.int (3 : Int32))]) CA.1 nd_Nj_init_152 rfl rfl rfl (by decide) rfl ?_
  refine vr_go CA.1 nd_Nj_init_155 ?_
  refine vr_il CA.1 nd_Nj_init_134 rfl ?_
  refine vr_ic CA.1 nd_Nj_init_135 ?_
  refine vr_cm_ge CA.1 nd_Nj_init_136 (fun hc => absurd hc (by decide)) (fun _ => ?_)
  refine vr_al CA.1 nd_Nj_init_139 rfl ?_
  refine vr_get (v := .ref 2) CA.1 nd_Nj_init_140 rfl fl_Nj_17 (q := 0) rfl rfl ?_
  refine vr_il CA.1 nd_Nj_init_143 rfl ?_
  refine vr_newo (ci := 4) (N := 2) (T := nj_FText) (fs := [.null, .int 0]) CA.1 nd_Nj_init_144 rfl kc_Nj_15 ki_Text kn_Text rfl nj_tText kt_Text (by decide +kernel) rfl rfl rfl rfl rfl (fun ad31 hg31 => ?_)
  show nj_V G ad31 36 661 147 [some (.ref 0), some (.int (3 : Int32))] [.ref 36, .int (3 : Int32), .ref 2] [.inr (5, [.ref 1, .ref 2, .ref 3, .ref 8, .ref 13, .ref 14, .ref 15, .ref 17, .int (0 : Int32), .int (0 : Int32), .long (0 : Int64), .long (1 : Int64)]), .inl (3, 6, .inr (.inr (.inr (.inr (va_up (va_up (va_up (va_up (va_up (va_up (fun _ => none) 0 (some 18)) 1 (some 20)) 2 (some 22)) 3 (some 24)) 4 (some 26)) 5 (some 28)))))), .inl (4, 4, .inr (.inr (.inr (.inr (va_up (va_up (va_up (fun _ => none) 0 (some 30)) 1 (some 32)) 2 (some 34)))))), .inr (0, [.ref 4, .ref 5, .ref 6, .ref 7, .int (0 : Int32), .int (0 : Int32), .int (0 : Int32), .int (0 : Int32), .int (0 : Int32)]), .inl (0, 6, .inl (fun _ => 0)), .inl (0, 6, .inl (fun _ => 0)), .inl (0, 6, .inl (fun _ => 0)), .inl (0, 40, .inl (fun _ => 0)), .inr (0, [.ref 9, .ref 10, .ref 11, .ref 12, .int (0 : Int32), .int (0 : Int32), .int (0 : Int32), .int (0 : Int32), .int (0 : Int32)]), .inl (0, 6, .inl (fun _ => 0)), .inl (0, 6, .inl (fun _ => 0)), .inl (0, 6, .inl (fun _ => 0)), .inl (0, 40, .inl (fun _ => 0)), .inl (5, 3, .inr (.inr (.inr (.inr (fun _ => none))))), .inr (2, [.int (0 : Int32), .int (0 : Int32)]), .inr (1, [.ref 3, .ref 16]), .inl (0, 64, .inl (fun _ => 0)), .inl (0, 6, .inl (fun _ => 0)), .inr (3, [.ref 19, .int (-1 : Int32)]), .inl (0, 40, .inl (fun _ => 0)), .inr (3, [.ref 21, .int (-1 : Int32)]), .inl (0, 40, .inl (fun _ => 0)), .inr (3, [.ref 23, .int (-1 : Int32)]), .inl (0, 40, .inl (fun _ => 0)), .inr (3, [.ref 25, .int (-1 : Int32)]), .inl (0, 40, .inl (fun _ => 0)), .inr (3, [.ref 27, .int (-1 : Int32)]), .inl (0, 40, .inl (fun _ => 0)), .inr (3, [.ref 29, .int (-1 : Int32)]), .inl (0, 40, .inl (fun _ => 0)), .inr (4, [.ref 31, .int (-1 : Int32)]), .inl (2, 60, .inl (fun _ => 0)), .inr (4, [.ref 33, .int (-1 : Int32)]), .inl (2, 60, .inl (fun _ => 0)), .inr (4, [.ref 35, .int (-1 : Int32)]), .inl (2, 60, .inl (fun _ => 0)), .inr (4, [.null, .int 0])]
  refine vr_dup CA.1 nd_Nj_init_147 rfl rfl ?_
  refine vr_ctorN [36] 1 [] [.ref 36, .int (3 : Int32), .ref 2] (hp2 := [.inr (5, [.ref 1, .ref 2, .ref 3, .ref 8, .ref 13, .ref 14, .ref 15, .ref 17, .int (0 : Int32), .int (0 : Int32), .long (0 : Int64), .long (1 : Int64)]), .inl (3, 6, .inr (.inr (.inr (.inr (va_up (va_up (va_up (va_up (va_up (va_up (fun _ => none) 0 (some 18)) 1 (some 20)) 2 (some 22)) 3 (some 24)) 4 (some 26)) 5 (some 28)))))), .inl (4, 4, .inr (.inr (.inr (.inr (va_up (va_up (va_up (fun _ => none) 0 (some 30)) 1 (some 32)) 2 (some 34)))))), .inr (0, [.ref 4, .ref 5, .ref 6, .ref 7, .int (0 : Int32), .int (0 : Int32), .int (0 : Int32), .int (0 : Int32), .int (0 : Int32)]), .inl (0, 6, .inl (fun _ => 0)), .inl (0, 6, .inl (fun _ => 0)), .inl (0, 6, .inl (fun _ => 0)), .inl (0, 40, .inl (fun _ => 0)), .inr (0, [.ref 9, .ref 10, .ref 11, .ref 12, .int (0 : Int32), .int (0 : Int32), .int (0 : Int32), .int (0 : Int32), .int (0 : Int32)]), .inl (0, 6, .inl (fun _ => 0)), .inl (0, 6, .inl (fun _ => 0)), .inl (0, 6, .inl (fun _ => 0)), .inl (0, 40, .inl (fun _ => 0)), .inl (5, 3, .inr (.inr (.inr (.inr (fun _ => none))))), .inr (2, [.int (0 : Int32), .int (0 : Int32)]), .inr (1, [.ref 3, .ref 16]), .inl (0, 64, .inl (fun _ => 0)), .inl (0, 6, .inl (fun _ => 0)), .inr (3, [.ref 19, .int (-1 : Int32)]), .inl (0, 40, .inl (fun _ => 0)), .inr (3, [.ref 21, .int (-1 : Int32)]), .inl (0, 40, .inl (fun _ => 0)), .inr (3, [.ref 23, .int (-1 : Int32)]), .inl (0, 40, .inl (fun _ => 0)), .inr (3, [.ref 25, .int (-1 : Int32)]), .inl (0, 40, .inl (fun _ => 0)), .inr (3, [.ref 27, .int (-1 : Int32)]), .inl (0, 40, .inl (fun _ => 0)), .inr (3, [.ref 29, .int (-1 : Int32)]), .inl (0, 40, .inl (fun _ => 0)), .inr (4, [.ref 31, .int (-1 : Int32)]), .inl (2, 60, .inl (fun _ => 0)), .inr (4, [.ref 33, .int (-1 : Int32)]), .inl (2, 60, .inl (fun _ => 0)), .inr (4, [.ref 35, .int (-1 : Int32)]), .inl (2, 60, .inl (fun _ => 0)), .inr (4, [.ref 37, .int (-1 : Int32)]), .inl (2, 60, .inl (fun _ => 0))]) CA.1 CA.2.1 nd_Nj_init_148 rfl (nj_neI CA.1).2.2.2.2.2.2 kx_Text_init_i kn_Text kx_Text_init_c rfl (by decide +kernel) ca_Text_init ⟨rfl, rfl, rfl⟩ (by decide) rfl rfl rfl rfl rfl rfl rfl ⟨rfl, rfl, rfl, rfl⟩ rfl rfl rfl rfl (fun ad32 hg32 => ?_)
  show nj_V G ad32 37 721 151 [some (.ref 0), some (.int (3 : Int32))] [.ref 36, .int (3 : Int32), .ref 2] [.inr (5, [.ref 1, .ref 2, .ref 3, .ref 8, .ref 13, .ref 14, .ref 15, .ref 17, .int (0 : Int32), .int (0 : Int32), .long (0 : Int64), .long (1 : Int64)]), .inl (3, 6, .inr (.inr (.inr (.inr (va_up (va_up (va_up (va_up (va_up (va_up (fun _ => none) 0 (some 18)) 1 (some 20)) 2 (some 22)) 3 (some 24)) 4 (some 26)) 5 (some 28)))))), .inl (4, 4, .inr (.inr (.inr (.inr (va_up (va_up (va_up (fun _ => none) 0 (some 30)) 1 (some 32)) 2 (some 34)))))), .inr (0, [.ref 4, .ref 5, .ref 6, .ref 7, .int (0 : Int32), .int (0 : Int32), .int (0 : Int32), .int (0 : Int32), .int (0 : Int32)]), .inl (0, 6, .inl (fun _ => 0)), .inl (0, 6, .inl (fun _ => 0)), .inl (0, 6, .inl (fun _ => 0)), .inl (0, 40, .inl (fun _ => 0)), .inr (0, [.ref 9, .ref 10, .ref 11, .ref 12, .int (0 : Int32), .int (0 : Int32), .int (0 : Int32), .int (0 : Int32), .int (0 : Int32)]), .inl (0, 6, .inl (fun _ => 0)), .inl (0, 6, .inl (fun _ => 0)), .inl (0, 6, .inl (fun _ => 0)), .inl (0, 40, .inl (fun _ => 0)), .inl (5, 3, .inr (.inr (.inr (.inr (fun _ => none))))), .inr (2, [.int (0 : Int32), .int (0 : Int32)]), .inr (1, [.ref 3, .ref 16]), .inl (0, 64, .inl (fun _ => 0)), .inl (0, 6, .inl (fun _ => 0)), .inr (3, [.ref 19, .int (-1 : Int32)]), .inl (0, 40, .inl (fun _ => 0)), .inr (3, [.ref 21, .int (-1 : Int32)]), .inl (0, 40, .inl (fun _ => 0)), .inr (3, [.ref 23, .int (-1 : Int32)]), .inl (0, 40, .inl (fun _ => 0)), .inr (3, [.ref 25, .int (-1 : Int32)]), .inl (0, 40, .inl (fun _ => 0)), .inr (3, [.ref 27, .int (-1 : Int32)]), .inl (0, 40, .inl (fun _ => 0)), .inr (3, [.ref 29, .int (-1 : Int32)]), .inl (0, 40, .inl (fun _ => 0)), .inr (4, [.ref 31, .int (-1 : Int32)]), .inl (2, 60, .inl (fun _ => 0)), .inr (4, [.ref 33, .int (-1 : Int32)]), .inl (2, 60, .inl (fun _ => 0)), .inr (4, [.ref 35, .int (-1 : Int32)]), .inl (2, 60, .inl (fun _ => 0)), .inr (4, [.ref 37, .int (-1 : Int32)]), .inl (2, 60, .inl (fun _ => 0))]
  refine vr_aast4 (j := 3) (hp' := [.inr (5, [.ref 1, .ref 2, .ref 3, .ref 8, .ref 13, .ref 14, .ref 15, .ref 17, .int (0 : Int32), .int (0 : Int32), .long (0 : Int64), .long (1 : Int64)]), .inl (3, 6, .inr (.inr (.inr (.inr (va_up (va_up (va_up (va_up (va_up (va_up (fun _ => none) 0 (some 18)) 1 (some 20)) 2 (some 22)) 3 (some 24)) 4 (some 26)) 5 (some 28)))))), .inl (4, 4, .inr (.inr (.inr (.inr (va_up (va_up (va_up (va_up (fun _ => none) 0 (some 30)) 1 (some 32)) 2 (some 34)) 3 (some 36)))))), .inr (0, [.ref 4, .ref 5, .ref 6, .ref 7, .int (0 : Int32), .int (0 : Int32), .int (0 : Int32), .int (0 : Int32), .int (0 : Int32)]), .inl (0, 6, .inl (fun _ => 0)), .inl (0, 6, .inl (fun _ => 0)), .inl (0, 6, .inl (fun _ => 0)), .inl (0, 40, .inl (fun _ => 0)), .inr (0, [.ref 9, .ref 10, .ref 11, .ref 12, .int (0 : Int32), .int (0 : Int32), .int (0 : Int32), .int (0 : Int32), .int (0 : Int32)]), .inl (0, 6, .inl (fun _ => 0)), .inl (0, 6, .inl (fun _ => 0)), .inl (0, 6, .inl (fun _ => 0)), .inl (0, 40, .inl (fun _ => 0)), .inl (5, 3, .inr (.inr (.inr (.inr (fun _ => none))))), .inr (2, [.int (0 : Int32), .int (0 : Int32)]), .inr (1, [.ref 3, .ref 16]), .inl (0, 64, .inl (fun _ => 0)), .inl (0, 6, .inl (fun _ => 0)), .inr (3, [.ref 19, .int (-1 : Int32)]), .inl (0, 40, .inl (fun _ => 0)), .inr (3, [.ref 21, .int (-1 : Int32)]), .inl (0, 40, .inl (fun _ => 0)), .inr (3, [.ref 23, .int (-1 : Int32)]), .inl (0, 40, .inl (fun _ => 0)), .inr (3, [.ref 25, .int (-1 : Int32)]), .inl (0, 40, .inl (fun _ => 0)), .inr (3, [.ref 27, .int (-1 : Int32)]), .inl (0, 40, .inl (fun _ => 0)), .inr (3, [.ref 29, .int (-1 : Int32)]), .inl (0, 40, .inl (fun _ => 0)), .inr (4, [.ref 31, .int (-1 : Int32)]), .inl (2, 60, .inl (fun _ => 0)), .inr (4, [.ref 33, .int (-1 : Int32)]), .inl (2, 60, .inl (fun _ => 0)), .inr (4, [.ref 35, .int (-1 : Int32)]), .inl (2, 60, .inl (fun _ => 0)), .inr (4, [.ref 37, .int (-1 : Int32)]), .inl (2, 60, .inl (fun _ => 0))]) CA.1 nd_Nj_init_151 rfl rfl rfl rfl (nj_inc rfl) (by decide) rfl ?_
  refine vr_inc (v := (4 : Int32)) (ls' := [some (.ref 0), some (.int (4 : Int32))]) CA.1 nd_Nj_init_152 rfl rfl rfl (by decide) rfl ?_
  refine vr_go CA.1 nd_Nj_init_155 ?_
  refine vr_il CA.1 nd_Nj_init_134 rfl ?_
  refine vr_ic CA.1 nd_Nj_init_135 ?_
  refine vr_cm_ge CA.1 nd_Nj_init_136 (fun _ => ?_) (fun hc => absurd hc (by decide))
  refine vr_ic CA.1 nd_Nj_init_158 ?_
  refine vr_is (ls' := [some (.ref 0), some (.int (0 : Int32))]) CA.1 nd_Nj_init_159 rfl rfl ?_
  refine vr_il CA.1 nd_Nj_init_160 rfl ?_
  refine vr_ic CA.1 nd_Nj_init_161 ?_
  refine vr_cm_ge CA.1 nd_Nj_init_162 (fun hc => absurd hc (by decide)) (fun _ => ?_)
  refine vr_al CA.1 nd_Nj_init_165 rfl ?_
  refine vr_get (v := .ref 13) CA.1 nd_Nj_init_166 rfl fl_Nj_31 (q := 0) rfl rfl ?_
  refine vr_il CA.1 nd_Nj_init_169 rfl ?_
  refine vr_newo (ci := 0) (N := 9) (T := nj_FClub) (fs := [.null, .null, .null, .null, .int 0, .int 0, .int 0, .int 0, .int 0]) CA.1 nd_Nj_init_170 rfl kc_Nj_21 ki_Club kn_Club rfl nj_tClub kt_Club (by decide +kernel) rfl rfl rfl rfl rfl (fun ad33 hg33 => ?_)
  show nj_V G ad33 38 730 173 [some (.ref 0), some (.int (0 : Int32))] [.ref 38, .int (0 : Int32), .ref 13] [.inr (5, [.ref 1, .ref 2, .ref 3, .ref 8, .ref 13, .ref 14, .ref 15, .ref 17, .int (0 : Int32), .int (0 : Int32), .long (0 : Int64), .long (1 : Int64)]), .inl (3, 6, .inr (.inr (.inr (.inr (va_up (va_up (va_up (va_up (va_up (va_up (fun _ => none) 0 (some 18)) 1 (some 20)) 2 (some 22)) 3 (some 24)) 4 (some 26)) 5 (some 28)))))), .inl (4, 4, .inr (.inr (.inr (.inr (va_up (va_up (va_up (va_up (fun _ => none) 0 (some 30)) 1 (some 32)) 2 (some 34)) 3 (some 36)))))), .inr (0, [.ref 4, .ref 5, .ref 6, .ref 7, .int (0 : Int32), .int (0 : Int32), .int (0 : Int32), .int (0 : Int32), .int (0 : Int32)]), .inl (0, 6, .inl (fun _ => 0)), .inl (0, 6, .inl (fun _ => 0)), .inl (0, 6, .inl (fun _ => 0)), .inl (0, 40, .inl (fun _ => 0)), .inr (0, [.ref 9, .ref 10, .ref 11, .ref 12, .int (0 : Int32), .int (0 : Int32), .int (0 : Int32), .int (0 : Int32), .int (0 : Int32)]), .inl (0, 6, .inl (fun _ => 0)), .inl (0, 6, .inl (fun _ => 0)), .inl (0, 6, .inl (fun _ => 0)), .inl (0, 40, .inl (fun _ => 0)), .inl (5, 3, .inr (.inr (.inr (.inr (fun _ => none))))), .inr (2, [.int (0 : Int32), .int (0 : Int32)]), .inr (1, [.ref 3, .ref 16]), .inl (0, 64, .inl (fun _ => 0)), .inl (0, 6, .inl (fun _ => 0)), .inr (3, [.ref 19, .int (-1 : Int32)]), .inl (0, 40, .inl (fun _ => 0)), .inr (3, [.ref 21, .int (-1 : Int32)]), .inl (0, 40, .inl (fun _ => 0)), .inr (3, [.ref 23, .int (-1 : Int32)]), .inl (0, 40, .inl (fun _ => 0)), .inr (3, [.ref 25, .int (-1 : Int32)]), .inl (0, 40, .inl (fun _ => 0)), .inr (3, [.ref 27, .int (-1 : Int32)]), .inl (0, 40, .inl (fun _ => 0)), .inr (3, [.ref 29, .int (-1 : Int32)]), .inl (0, 40, .inl (fun _ => 0)), .inr (4, [.ref 31, .int (-1 : Int32)]), .inl (2, 60, .inl (fun _ => 0)), .inr (4, [.ref 33, .int (-1 : Int32)]), .inl (2, 60, .inl (fun _ => 0)), .inr (4, [.ref 35, .int (-1 : Int32)]), .inl (2, 60, .inl (fun _ => 0)), .inr (4, [.ref 37, .int (-1 : Int32)]), .inl (2, 60, .inl (fun _ => 0)), .inr (0, [.null, .null, .null, .null, .int 0, .int 0, .int 0, .int 0, .int 0])]
  refine vr_dup CA.1 nd_Nj_init_173 rfl rfl ?_
  refine vr_ctorN [38] 4 [] [.ref 38, .int (0 : Int32), .ref 13] (hp2 := [.inr (5, [.ref 1, .ref 2, .ref 3, .ref 8, .ref 13, .ref 14, .ref 15, .ref 17, .int (0 : Int32), .int (0 : Int32), .long (0 : Int64), .long (1 : Int64)]), .inl (3, 6, .inr (.inr (.inr (.inr (va_up (va_up (va_up (va_up (va_up (va_up (fun _ => none) 0 (some 18)) 1 (some 20)) 2 (some 22)) 3 (some 24)) 4 (some 26)) 5 (some 28)))))), .inl (4, 4, .inr (.inr (.inr (.inr (va_up (va_up (va_up (va_up (fun _ => none) 0 (some 30)) 1 (some 32)) 2 (some 34)) 3 (some 36)))))), .inr (0, [.ref 4, .ref 5, .ref 6, .ref 7, .int (0 : Int32), .int (0 : Int32), .int (0 : Int32), .int (0 : Int32), .int (0 : Int32)]), .inl (0, 6, .inl (fun _ => 0)), .inl (0, 6, .inl (fun _ => 0)), .inl (0, 6, .inl (fun _ => 0)), .inl (0, 40, .inl (fun _ => 0)), .inr (0, [.ref 9, .ref 10, .ref 11, .ref 12, .int (0 : Int32), .int (0 : Int32), .int (0 : Int32), .int (0 : Int32), .int (0 : Int32)]), .inl (0, 6, .inl (fun _ => 0)), .inl (0, 6, .inl (fun _ => 0)), .inl (0, 6, .inl (fun _ => 0)), .inl (0, 40, .inl (fun _ => 0)), .inl (5, 3, .inr (.inr (.inr (.inr (fun _ => none))))), .inr (2, [.int (0 : Int32), .int (0 : Int32)]), .inr (1, [.ref 3, .ref 16]), .inl (0, 64, .inl (fun _ => 0)), .inl (0, 6, .inl (fun _ => 0)), .inr (3, [.ref 19, .int (-1 : Int32)]), .inl (0, 40, .inl (fun _ => 0)), .inr (3, [.ref 21, .int (-1 : Int32)]), .inl (0, 40, .inl (fun _ => 0)), .inr (3, [.ref 23, .int (-1 : Int32)]), .inl (0, 40, .inl (fun _ => 0)), .inr (3, [.ref 25, .int (-1 : Int32)]), .inl (0, 40, .inl (fun _ => 0)), .inr (3, [.ref 27, .int (-1 : Int32)]), .inl (0, 40, .inl (fun _ => 0)), .inr (3, [.ref 29, .int (-1 : Int32)]), .inl (0, 40, .inl (fun _ => 0)), .inr (4, [.ref 31, .int (-1 : Int32)]), .inl (2, 60, .inl (fun _ => 0)), .inr (4, [.ref 33, .int (-1 : Int32)]), .inl (2, 60, .inl (fun _ => 0)), .inr (4, [.ref 35, .int (-1 : Int32)]), .inl (2, 60, .inl (fun _ => 0)), .inr (4, [.ref 37, .int (-1 : Int32)]), .inl (2, 60, .inl (fun _ => 0)), .inr (0, [.ref 39, .ref 40, .ref 41, .ref 42, .int (0 : Int32), .int (0 : Int32), .int (0 : Int32), .int (0 : Int32), .int (0 : Int32)]), .inl (0, 6, .inl (fun _ => 0)), .inl (0, 6, .inl (fun _ => 0)), .inl (0, 6, .inl (fun _ => 0)), .inl (0, 40, .inl (fun _ => 0))]) CA.1 CA.2.1 nd_Nj_init_174 rfl (nj_neI CA.1).2.2.2.1 kx_Club_init_i kn_Club kx_Club_init_c rfl (by decide +kernel) ca_Club_init ⟨rfl, rfl, rfl⟩ (by decide) rfl rfl rfl rfl rfl rfl rfl ⟨rfl, rfl, rfl, rfl⟩ rfl rfl rfl rfl (fun ad34 hg34 => ?_)
  show nj_V G ad34 42 788 177 [some (.ref 0), some (.int (0 : Int32))] [.ref 38, .int (0 : Int32), .ref 13] [.inr (5, [.ref 1, .ref 2, .ref 3, .ref 8, .ref 13, .ref 14, .ref 15, .ref 17, .int (0 : Int32), .int (0 : Int32), .long (0 : Int64), .long (1 : Int64)]), .inl (3, 6, .inr (.inr (.inr (.inr (va_up (va_up (va_up (va_up (va_up (va_up (fun _ => none) 0 (some 18)) 1 (some 20)) 2 (some 22)) 3 (some 24)) 4 (some 26)) 5 (some 28)))))), .inl (4, 4, .inr (.inr (.inr (.inr (va_up (va_up (va_up (va_up (fun _ => none) 0 (some 30)) 1 (some 32)) 2 (some 34)) 3 (some 36)))))), .inr (0, [.ref 4, .ref 5, .ref 6, .ref 7, .int (0 : Int32), .int (0 : Int32), .int (0 : Int32), .int (0 : Int32), .int (0 : Int32)]), .inl (0, 6, .inl (fun _ => 0)), .inl (0, 6, .inl (fun _ => 0)), .inl (0, 6, .inl (fun _ => 0)), .inl (0, 40, .inl (fun _ => 0)), .inr (0, [.ref 9, .ref 10, .ref 11, .ref 12, .int (0 : Int32), .int (0 : Int32), .int (0 : Int32), .int (0 : Int32), .int (0 : Int32)]), .inl (0, 6, .inl (fun _ => 0)), .inl (0, 6, .inl (fun _ => 0)), .inl (0, 6, .inl (fun _ => 0)), .inl (0, 40, .inl (fun _ => 0)), .inl (5, 3, .inr (.inr (.inr (.inr (fun _ => none))))), .inr (2, [.int (0 : Int32), .int (0 : Int32)]), .inr (1, [.ref 3, .ref 16]), .inl (0, 64, .inl (fun _ => 0)), .inl (0, 6, .inl (fun _ => 0)), .inr (3, [.ref 19, .int (-1 : Int32)]), .inl (0, 40, .inl (fun _ => 0)), .inr (3, [.ref 21, .int (-1 : Int32)]), .inl (0, 40, .inl (fun _ => 0)), .inr (3, [.ref 23, .int (-1 : Int32)]), .inl (0, 40, .inl (fun _ => 0)), .inr (3, [.ref 25, .int (-1 : Int32)]), .inl (0, 40, .inl (fun _ => 0)), .inr (3, [.ref 27, .int (-1 : Int32)]), .inl (0, 40, .inl (fun _ => 0)), .inr (3, [.ref 29, .int (-1 : Int32)]), .inl (0, 40, .inl (fun _ => 0)), .inr (4, [.ref 31, .int (-1 : Int32)]), .inl (2, 60, .inl (fun _ => 0)), .inr (4, [.ref 33, .int (-1 : Int32)]), .inl (2, 60, .inl (fun _ => 0)), .inr (4, [.ref 35, .int (-1 : Int32)]), .inl (2, 60, .inl (fun _ => 0)), .inr (4, [.ref 37, .int (-1 : Int32)]), .inl (2, 60, .inl (fun _ => 0)), .inr (0, [.ref 39, .ref 40, .ref 41, .ref 42, .int (0 : Int32), .int (0 : Int32), .int (0 : Int32), .int (0 : Int32), .int (0 : Int32)]), .inl (0, 6, .inl (fun _ => 0)), .inl (0, 6, .inl (fun _ => 0)), .inl (0, 6, .inl (fun _ => 0)), .inl (0, 40, .inl (fun _ => 0))]
  refine vr_aast5 (j := 0) (hp' := [.inr (5, [.ref 1, .ref 2, .ref 3, .ref 8, .ref 13, .ref 14, .ref 15, .ref 17, .int (0 : Int32), .int (0 : Int32), .long (0 : Int64), .long (1 : Int64)]), .inl (3, 6, .inr (.inr (.inr (.inr (va_up (va_up (va_up (va_up (va_up (va_up (fun _ => none) 0 (some 18)) 1 (some 20)) 2 (some 22)) 3 (some 24)) 4 (some 26)) 5 (some 28)))))), .inl (4, 4, .inr (.inr (.inr (.inr (va_up (va_up (va_up (va_up (fun _ => none) 0 (some 30)) 1 (some 32)) 2 (some 34)) 3 (some 36)))))), .inr (0, [.ref 4, .ref 5, .ref 6, .ref 7, .int (0 : Int32), .int (0 : Int32), .int (0 : Int32), .int (0 : Int32), .int (0 : Int32)]), .inl (0, 6, .inl (fun _ => 0)), .inl (0, 6, .inl (fun _ => 0)), .inl (0, 6, .inl (fun _ => 0)), .inl (0, 40, .inl (fun _ => 0)), .inr (0, [.ref 9, .ref 10, .ref 11, .ref 12, .int (0 : Int32), .int (0 : Int32), .int (0 : Int32), .int (0 : Int32), .int (0 : Int32)]), .inl (0, 6, .inl (fun _ => 0)), .inl (0, 6, .inl (fun _ => 0)), .inl (0, 6, .inl (fun _ => 0)), .inl (0, 40, .inl (fun _ => 0)), .inl (5, 3, .inr (.inr (.inr (.inr (va_up (fun _ => none) 0 (some 38)))))), .inr (2, [.int (0 : Int32), .int (0 : Int32)]), .inr (1, [.ref 3, .ref 16]), .inl (0, 64, .inl (fun _ => 0)), .inl (0, 6, .inl (fun _ => 0)), .inr (3, [.ref 19, .int (-1 : Int32)]), .inl (0, 40, .inl (fun _ => 0)), .inr (3, [.ref 21, .int (-1 : Int32)]), .inl (0, 40, .inl (fun _ => 0)), .inr (3, [.ref 23, .int (-1 : Int32)]), .inl (0, 40, .inl (fun _ => 0)), .inr (3, [.ref 25, .int (-1 : Int32)]), .inl (0, 40, .inl (fun _ => 0)), .inr (3, [.ref 27, .int (-1 : Int32)]), .inl (0, 40, .inl (fun _ => 0)), .inr (3, [.ref 29, .int (-1 : Int32)]), .inl (0, 40, .inl (fun _ => 0)), .inr (4, [.ref 31, .int (-1 : Int32)]), .inl (2, 60, .inl (fun _ => 0)), .inr (4, [.ref 33, .int (-1 : Int32)]), .inl (2, 60, .inl (fun _ => 0)), .inr (4, [.ref 35, .int (-1 : Int32)]), .inl (2, 60, .inl (fun _ => 0)), .inr (4, [.ref 37, .int (-1 : Int32)]), .inl (2, 60, .inl (fun _ => 0)), .inr (0, [.ref 39, .ref 40, .ref 41, .ref 42, .int (0 : Int32), .int (0 : Int32), .int (0 : Int32), .int (0 : Int32), .int (0 : Int32)]), .inl (0, 6, .inl (fun _ => 0)), .inl (0, 6, .inl (fun _ => 0)), .inl (0, 6, .inl (fun _ => 0)), .inl (0, 40, .inl (fun _ => 0))]) CA.1 nd_Nj_init_177 rfl rfl rfl rfl (nj_inc rfl) (by decide) rfl ?_
  refine vr_inc (v := (1 : Int32)) (ls' := [some (.ref 0), some (.int (1 : Int32))]) CA.1 nd_Nj_init_178 rfl rfl rfl (by decide) rfl ?_
  refine vr_go CA.1 nd_Nj_init_181 ?_
  refine vr_il CA.1 nd_Nj_init_160 rfl ?_
  refine vr_ic CA.1 nd_Nj_init_161 ?_
  refine vr_cm_ge CA.1 nd_Nj_init_162 (fun hc => absurd hc (by decide)) (fun _ => ?_)
  refine vr_al CA.1 nd_Nj_init_165 rfl ?_
  refine vr_get (v := .ref 13) CA.1 nd_Nj_init_166 rfl fl_Nj_31 (q := 0) rfl rfl ?_
  refine vr_il CA.1 nd_Nj_init_169 rfl ?_
  refine vr_newo (ci := 0) (N := 9) (T := nj_FClub) (fs := [.null, .null, .null, .null, .int 0, .int 0, .int 0, .int 0, .int 0]) CA.1 nd_Nj_init_170 rfl kc_Nj_21 ki_Club kn_Club rfl nj_tClub kt_Club (by decide +kernel) rfl rfl rfl rfl rfl (fun ad35 hg35 => ?_)
  show nj_V G ad35 43 797 173 [some (.ref 0), some (.int (1 : Int32))] [.ref 43, .int (1 : Int32), .ref 13] [.inr (5, [.ref 1, .ref 2, .ref 3, .ref 8, .ref 13, .ref 14, .ref 15, .ref 17, .int (0 : Int32), .int (0 : Int32), .long (0 : Int64), .long (1 : Int64)]), .inl (3, 6, .inr (.inr (.inr (.inr (va_up (va_up (va_up (va_up (va_up (va_up (fun _ => none) 0 (some 18)) 1 (some 20)) 2 (some 22)) 3 (some 24)) 4 (some 26)) 5 (some 28)))))), .inl (4, 4, .inr (.inr (.inr (.inr (va_up (va_up (va_up (va_up (fun _ => none) 0 (some 30)) 1 (some 32)) 2 (some 34)) 3 (some 36)))))), .inr (0, [.ref 4, .ref 5, .ref 6, .ref 7, .int (0 : Int32), .int (0 : Int32), .int (0 : Int32), .int (0 : Int32), .int (0 : Int32)]), .inl (0, 6, .inl (fun _ => 0)), .inl (0, 6, .inl (fun _ => 0)), .inl (0, 6, .inl (fun _ => 0)), .inl (0, 40, .inl (fun _ => 0)), .inr (0, [.ref 9, .ref 10, .ref 11, .ref 12, .int (0 : Int32), .int (0 : Int32), .int (0 : Int32), .int (0 : Int32), .int (0 : Int32)]), .inl (0, 6, .inl (fun _ => 0)), .inl (0, 6, .inl (fun _ => 0)), .inl (0, 6, .inl (fun _ => 0)), .inl (0, 40, .inl (fun _ => 0)), .inl (5, 3, .inr (.inr (.inr (.inr (va_up (fun _ => none) 0 (some 38)))))), .inr (2, [.int (0 : Int32), .int (0 : Int32)]), .inr (1, [.ref 3, .ref 16]), .inl (0, 64, .inl (fun _ => 0)), .inl (0, 6, .inl (fun _ => 0)), .inr (3, [.ref 19, .int (-1 : Int32)]), .inl (0, 40, .inl (fun _ => 0)), .inr (3, [.ref 21, .int (-1 : Int32)]), .inl (0, 40, .inl (fun _ => 0)), .inr (3, [.ref 23, .int (-1 : Int32)]), .inl (0, 40, .inl (fun _ => 0)), .inr (3, [.ref 25, .int (-1 : Int32)]), .inl (0, 40, .inl (fun _ => 0)), .inr (3, [.ref 27, .int (-1 : Int32)]), .inl (0, 40, .inl (fun _ => 0)), .inr (3, [.ref 29, .int (-1 : Int32)]), .inl (0, 40, .inl (fun _ => 0)), .inr (4, [.ref 31, .int (-1 : Int32)]), .inl (2, 60, .inl (fun _ => 0)), .inr (4, [.ref 33, .int (-1 : Int32)]), .inl (2, 60, .inl (fun _ => 0)), .inr (4, [.ref 35, .int (-1 : Int32)]), .inl (2, 60, .inl (fun _ => 0)), .inr (4, [.ref 37, .int (-1 : Int32)]), .inl (2, 60, .inl (fun _ => 0)), .inr (0, [.ref 39, .ref 40, .ref 41, .ref 42, .int (0 : Int32), .int (0 : Int32), .int (0 : Int32), .int (0 : Int32), .int (0 : Int32)]), .inl (0, 6, .inl (fun _ => 0)), .inl (0, 6, .inl (fun _ => 0)), .inl (0, 6, .inl (fun _ => 0)), .inl (0, 40, .inl (fun _ => 0)), .inr (0, [.null, .null, .null, .null, .int 0, .int 0, .int 0, .int 0, .int 0])]
  refine vr_dup CA.1 nd_Nj_init_173 rfl rfl ?_
  refine vr_ctorN [43] 4 [] [.ref 43, .int (1 : Int32), .ref 13] (hp2 := [.inr (5, [.ref 1, .ref 2, .ref 3, .ref 8, .ref 13, .ref 14, .ref 15, .ref 17, .int (0 : Int32), .int (0 : Int32), .long (0 : Int64), .long (1 : Int64)]), .inl (3, 6, .inr (.inr (.inr (.inr (va_up (va_up (va_up (va_up (va_up (va_up (fun _ => none) 0 (some 18)) 1 (some 20)) 2 (some 22)) 3 (some 24)) 4 (some 26)) 5 (some 28)))))), .inl (4, 4, .inr (.inr (.inr (.inr (va_up (va_up (va_up (va_up (fun _ => none) 0 (some 30)) 1 (some 32)) 2 (some 34)) 3 (some 36)))))), .inr (0, [.ref 4, .ref 5, .ref 6, .ref 7, .int (0 : Int32), .int (0 : Int32), .int (0 : Int32), .int (0 : Int32), .int (0 : Int32)]), .inl (0, 6, .inl (fun _ => 0)), .inl (0, 6, .inl (fun _ => 0)), .inl (0, 6, .inl (fun _ => 0)), .inl (0, 40, .inl (fun _ => 0)), .inr (0, [.ref 9, .ref 10, .ref 11, .ref 12, .int (0 : Int32), .int (0 : Int32), .int (0 : Int32), .int (0 : Int32), .int (0 : Int32)]), .inl (0, 6, .inl (fun _ => 0)), .inl (0, 6, .inl (fun _ => 0)), .inl (0, 6, .inl (fun _ => 0)), .inl (0, 40, .inl (fun _ => 0)), .inl (5, 3, .inr (.inr (.inr (.inr (va_up (fun _ => none) 0 (some 38)))))), .inr (2, [.int (0 : Int32), .int (0 : Int32)]), .inr (1, [.ref 3, .ref 16]), .inl (0, 64, .inl (fun _ => 0)), .inl (0, 6, .inl (fun _ => 0)), .inr (3, [.ref 19, .int (-1 : Int32)]), .inl (0, 40, .inl (fun _ => 0)), .inr (3, [.ref 21, .int (-1 : Int32)]), .inl (0, 40, .inl (fun _ => 0)), .inr (3, [.ref 23, .int (-1 : Int32)]), .inl (0, 40, .inl (fun _ => 0)), .inr (3, [.ref 25, .int (-1 : Int32)]), .inl (0, 40, .inl (fun _ => 0)), .inr (3, [.ref 27, .int (-1 : Int32)]), .inl (0, 40, .inl (fun _ => 0)), .inr (3, [.ref 29, .int (-1 : Int32)]), .inl (0, 40, .inl (fun _ => 0)), .inr (4, [.ref 31, .int (-1 : Int32)]), .inl (2, 60, .inl (fun _ => 0)), .inr (4, [.ref 33, .int (-1 : Int32)]), .inl (2, 60, .inl (fun _ => 0)), .inr (4, [.ref 35, .int (-1 : Int32)]), .inl (2, 60, .inl (fun _ => 0)), .inr (4, [.ref 37, .int (-1 : Int32)]), .inl (2, 60, .inl (fun _ => 0)), .inr (0, [.ref 39, .ref 40, .ref 41, .ref 42, .int (0 : Int32), .int (0 : Int32), .int (0 : Int32), .int (0 : Int32), .int (0 : Int32)]), .inl (0, 6, .inl (fun _ => 0)), .inl (0, 6, .inl (fun _ => 0)), .inl (0, 6, .inl (fun _ => 0)), .inl (0, 40, .inl (fun _ => 0)), .inr (0, [.ref 44, .ref 45, .ref 46, .ref 47, .int (0 : Int32), .int (0 : Int32), .int (0 : Int32), .int (0 : Int32), .int (0 : Int32)]), .inl (0, 6, .inl (fun _ => 0)), .inl (0, 6, .inl (fun _ => 0)), .inl (0, 6, .inl (fun _ => 0)), .inl (0, 40, .inl (fun _ => 0))]) CA.1 CA.2.1 nd_Nj_init_174 rfl (nj_neI CA.1).2.2.2.1 kx_Club_init_i kn_Club kx_Club_init_c rfl (by decide +kernel) ca_Club_init ⟨rfl, rfl, rfl⟩ (by decide) rfl rfl rfl rfl rfl rfl rfl ⟨rfl, rfl, rfl, rfl⟩ rfl rfl rfl rfl (fun ad36 hg36 => ?_)
  show nj_V G ad36 47 855 177 [some (.ref 0), some (.int (1 : Int32))] [.ref 43, .int (1 : Int32), .ref 13] [.inr (5, [.ref 1, .ref 2, .ref 3, .ref 8, .ref 13, .ref 14, .ref 15, .ref 17, .int (0 : Int32), .int (0 : Int32), .long (0 : Int64), .long (1 : Int64)]), .inl (3, 6, .inr (.inr (.inr (.inr (va_up (va_up (va_up (va_up (va_up (va_up (fun _ => none) 0 (some 18)) 1 (some 20)) 2 (some 22)) 3 (some 24)) 4 (some 26)) 5 (some 28)))))), .inl (4, 4, .inr (.inr (.inr (.inr (va_up (va_up (va_up (va_up (fun _ => none) 0 (some 30)) 1 (some 32)) 2 (some 34)) 3 (some 36)))))), .inr (0, [.ref 4, .ref 5, .ref 6, .ref 7, .int (0 : Int32), .int (0 : Int32), .int (0 : Int32), .int (0 : Int32), .int (0 : Int32)]), .inl (0, 6, .inl (fun _ => 0)), .inl (0, 6, .inl (fun _ => 0)), .inl (0, 6, .inl (fun _ => 0)), .inl (0, 40, .inl (fun _ => 0)), .inr (0, [.ref 9, .ref 10, .ref 11, .ref 12, .int (0 : Int32), .int (0 : Int32), .int (0 : Int32), .int (0 : Int32), .int (0 : Int32)]), .inl (0, 6, .inl (fun _ => 0)), .inl (0, 6, .inl (fun _ => 0)), .inl (0, 6, .inl (fun _ => 0)), .inl (0, 40, .inl (fun _ => 0)), .inl (5, 3, .inr (.inr (.inr (.inr (va_up (fun _ => none) 0 (some 38)))))), .inr (2, [.int (0 : Int32), .int (0 : Int32)]), .inr (1, [.ref 3, .ref 16]), .inl (0, 64, .inl (fun _ => 0)), .inl (0, 6, .inl (fun _ => 0)), .inr (3, [.ref 19, .int (-1 : Int32)]), .inl (0, 40, .inl (fun _ => 0)), .inr (3, [.ref 21, .int (-1 : Int32)]), .inl (0, 40, .inl (fun _ => 0)), .inr (3, [.ref 23, .int (-1 : Int32)]), .inl (0, 40, .inl (fun _ => 0)), .inr (3, [.ref 25, .int (-1 : Int32)]), .inl (0, 40, .inl (fun _ => 0)), .inr (3, [.ref 27, .int (-1 : Int32)]), .inl (0, 40, .inl (fun _ => 0)), .inr (3, [.ref 29, .int (-1 : Int32)]), .inl (0, 40, .inl (fun _ => 0)), .inr (4, [.ref 31, .int (-1 : Int32)]), .inl (2, 60, .inl (fun _ => 0)), .inr (4, [.ref 33, .int (-1 : Int32)]), .inl (2, 60, .inl (fun _ => 0)), .inr (4, [.ref 35, .int (-1 : Int32)]), .inl (2, 60, .inl (fun _ => 0)), .inr (4, [.ref 37, .int (-1 : Int32)]), .inl (2, 60, .inl (fun _ => 0)), .inr (0, [.ref 39, .ref 40, .ref 41, .ref 42, .int (0 : Int32), .int (0 : Int32), .int (0 : Int32), .int (0 : Int32), .int (0 : Int32)]), .inl (0, 6, .inl (fun _ => 0)), .inl (0, 6, .inl (fun _ => 0)), .inl (0, 6, .inl (fun _ => 0)), .inl (0, 40, .inl (fun _ => 0)), .inr (0, [.ref 44, .ref 45, .ref 46, .ref 47, .int (0 : Int32), .int (0 : Int32), .int (0 : Int32), .int (0 : Int32), .int (0 : Int32)]), .inl (0, 6, .inl (fun _ => 0)), .inl (0, 6, .inl (fun _ => 0)), .inl (0, 6, .inl (fun _ => 0)), .inl (0, 40, .inl (fun _ => 0))]
  refine vr_aast5 (j := 1) (hp' := [.inr (5, [.ref 1, .ref 2, .ref 3, .ref 8, .ref 13, .ref 14, .ref 15, .ref 17, .int (0 : Int32), .int (0 : Int32), .long (0 : Int64), .long (1 : Int64)]), .inl (3, 6, .inr (.inr (.inr (.inr (va_up (va_up (va_up (va_up (va_up (va_up (fun _ => none) 0 (some 18)) 1 (some 20)) 2 (some 22)) 3 (some 24)) 4 (some 26)) 5 (some 28)))))), .inl (4, 4, .inr (.inr (.inr (.inr (va_up (va_up (va_up (va_up (fun _ => none) 0 (some 30)) 1 (some 32)) 2 (some 34)) 3 (some 36)))))), .inr (0, [.ref 4, .ref 5, .ref 6, .ref 7, .int (0 : Int32), .int (0 : Int32), .int (0 : Int32), .int (0 : Int32), .int (0 : Int32)]), .inl (0, 6, .inl (fun _ => 0)), .inl (0, 6, .inl (fun _ => 0)), .inl (0, 6, .inl (fun _ => 0)), .inl (0, 40, .inl (fun _ => 0)), .inr (0, [.ref 9, .ref 10, .ref 11, .ref 12, .int (0 : Int32), .int (0 : Int32), .int (0 : Int32), .int (0 : Int32), .int (0 : Int32)]), .inl (0, 6, .inl (fun _ => 0)), .inl (0, 6, .inl (fun _ => 0)), .inl (0, 6, .inl (fun _ => 0)), .inl (0, 40, .inl (fun _ => 0)), .inl (5, 3, .inr (.inr (.inr (.inr (va_up (va_up (fun _ => none) 0 (some 38)) 1 (some 43)))))), .inr (2, [.int (0 : Int32), .int (0 : Int32)]), .inr (1, [.ref 3, .ref 16]), .inl (0, 64, .inl (fun _ => 0)), .inl (0, 6, .inl (fun _ => 0)), .inr (3, [.ref 19, .int (-1 : Int32)]), .inl (0, 40, .inl (fun _ => 0)), .inr (3, [.ref 21, .int (-1 : Int32)]), .inl (0, 40, .inl (fun _ => 0)), .inr (3, [.ref 23, .int (-1 : Int32)]), .inl (0, 40, .inl (fun _ => 0)), .inr (3, [.ref 25, .int (-1 : Int32)]), .inl (0, 40, .inl (fun _ => 0)), .inr (3, [.ref 27, .int (-1 : Int32)]), .inl (0, 40, .inl (fun _ => 0)), .inr (3, [.ref 29, .int (-1 : Int32)]), .inl (0, 40, .inl (fun _ => 0)), .inr (4, [.ref 31, .int (-1 : Int32)]), .inl (2, 60, .inl (fun _ => 0)), .inr (4, [.ref 33, .int (-1 : Int32)]), .inl (2, 60, .inl (fun _ => 0)), .inr (4, [.ref 35, .int (-1 : Int32)]), .inl (2, 60, .inl (fun _ => 0)), .inr (4, [.ref 37, .int (-1 : Int32)]), .inl (2, 60, .inl (fun _ => 0)), .inr (0, [.ref 39, .ref 40, .ref 41, .ref 42, .int (0 : Int32), .int (0 : Int32), .int (0 : Int32), .int (0 : Int32), .int (0 : Int32)]), .inl (0, 6, .inl (fun _ => 0)), .inl (0, 6, .inl (fun _ => 0)), .inl (0, 6, .inl (fun _ => 0)), .inl (0, 40, .inl (fun _ => 0)), .inr (0, [.ref 44, .ref 45, .ref 46, .ref 47, .int (0 : Int32), .int (0 : Int32), .int (0 : Int32), .int (0 : Int32), .int (0 : Int32)]), .inl (0, 6, .inl (fun _ => 0)), .inl (0, 6, .inl (fun _ => 0)), .inl (0, 6, .inl (fun _ => 0)), .inl (0, 40, .inl (fun _ => 0))]) CA.1 nd_Nj_init_177 rfl rfl rfl rfl (nj_inc rfl) (by decide) rfl ?_
  refine vr_inc (v := (2 : Int32)) (ls' := [some (.ref 0), some (.int (2 : Int32))]) CA.1 nd_Nj_init_178 rfl rfl rfl (by decide) rfl ?_
  refine vr_go CA.1 nd_Nj_init_181 ?_
  refine vr_il CA.1 nd_Nj_init_160 rfl ?_
  refine vr_ic CA.1 nd_Nj_init_161 ?_
  refine vr_cm_ge CA.1 nd_Nj_init_162 (fun hc => absurd hc (by decide)) (fun _ => ?_)
  refine vr_al CA.1 nd_Nj_init_165 rfl ?_
  refine vr_get (v := .ref 13) CA.1 nd_Nj_init_166 rfl fl_Nj_31 (q := 0) rfl rfl ?_
  refine vr_il CA.1 nd_Nj_init_169 rfl ?_
  refine vr_newo (ci := 0) (N := 9) (T := nj_FClub) (fs := [.null, .null, .null, .null, .int 0, .int 0, .int 0, .int 0, .int 0]) CA.1 nd_Nj_init_170 rfl kc_Nj_21 ki_Club kn_Club rfl nj_tClub kt_Club (by decide +kernel) rfl rfl rfl rfl rfl (fun ad37 hg37 => ?_)
  show nj_V G ad37 48 864 173 [some (.ref 0), some (.int (2 : Int32))] [.ref 48, .int (2 : Int32), .ref 13] [.inr (5, [.ref 1, .ref 2, .ref 3, .ref 8, .ref 13, .ref 14, .ref 15, .ref 17, .int (0 : Int32), .int (0 : Int32), .long (0 : Int64), .long (1 : Int64)]), .inl (3, 6, .inr (.inr (.inr (.inr (va_up (va_up (va_up (va_up (va_up (va_up (fun _ => none) 0 (some 18)) 1 (some 20)) 2 (some 22)) 3 (some 24)) 4 (some 26)) 5 (some 28)))))), .inl (4, 4, .inr (.inr (.inr (.inr (va_up (va_up (va_up (va_up (fun _ => none) 0 (some 30)) 1 (some 32)) 2 (some 34)) 3 (some 36)))))), .inr (0, [.ref 4, .ref 5, .ref 6, .ref 7, .int (0 : Int32), .int (0 : Int32), .int (0 : Int32), .int (0 : Int32), .int (0 : Int32)]), .inl (0, 6, .inl (fun _ => 0)), .inl (0, 6, .inl (fun _ => 0)), .inl (0, 6, .inl (fun _ => 0)), .inl (0, 40, .inl (fun _ => 0)), .inr (0, [.ref 9, .ref 10, .ref 11, .ref 12, .int (0 : Int32), .int (0 : Int32), .int (0 : Int32), .int (0 : Int32), .int (0 : Int32)]), .inl (0, 6, .inl (fun _ => 0)), .inl (0, 6, .inl (fun _ => 0)), .inl (0, 6, .inl (fun _ => 0)), .inl (0, 40, .inl (fun _ => 0)), .inl (5, 3, .inr (.inr (.inr (.inr (va_up (va_up (fun _ => none) 0 (some 38)) 1 (some 43)))))), .inr (2, [.int (0 : Int32), .int (0 : Int32)]), .inr (1, [.ref 3, .ref 16]), .inl (0, 64, .inl (fun _ => 0)), .inl (0, 6, .inl (fun _ => 0)), .inr (3, [.ref 19, .int (-1 : Int32)]), .inl (0, 40, .inl (fun _ => 0)), .inr (3, [.ref 21, .int (-1 : Int32)]), .inl (0, 40, .inl (fun _ => 0)), .inr (3, [.ref 23, .int (-1 : Int32)]), .inl (0, 40, .inl (fun _ => 0)), .inr (3, [.ref 25, .int (-1 : Int32)]), .inl (0, 40, .inl (fun _ => 0)), .inr (3, [.ref 27, .int (-1 : Int32)]), .inl (0, 40, .inl (fun _ => 0)), .inr (3, [.ref 29, .int (-1 : Int32)]), .inl (0, 40, .inl (fun _ => 0)), .inr (4, [.ref 31, .int (-1 : Int32)]), .inl (2, 60, .inl (fun _ => 0)), .inr (4, [.ref 33, .int (-1 : Int32)]), .inl (2, 60, .inl (fun _ => 0)), .inr (4, [.ref 35, .int (-1 : Int32)]), .inl (2, 60, .inl (fun _ => 0)), .inr (4, [.ref 37, .int (-1 : Int32)]), .inl (2, 60, .inl (fun _ => 0)), .inr (0, [.ref 39, .ref 40, .ref 41, .ref 42, .int (0 : Int32), .int (0 : Int32), .int (0 : Int32), .int (0 : Int32), .int (0 : Int32)]), .inl (0, 6, .inl (fun _ => 0)), .inl (0, 6, .inl (fun _ => 0)), .inl (0, 6, .inl (fun _ => 0)), .inl (0, 40, .inl (fun _ => 0)), .inr (0, [.ref 44, .ref 45, .ref 46, .ref 47, .int (0 : Int32), .int (0 : Int32), .int (0 : Int32), .int (0 : Int32), .int (0 : Int32)]), .inl (0, 6, .inl (fun _ => 0)), .inl (0, 6, .inl (fun _ => 0)), .inl (0, 6, .inl (fun _ => 0)), .inl (0, 40, .inl (fun _ => 0)), .inr (0, [.null, .null, .null, .null, .int 0, .int 0, .int 0, .int 0, .int 0])]
  refine vr_dup CA.1 nd_Nj_init_173 rfl rfl ?_
  refine vr_ctorN [48] 4 [] [.ref 48, .int (2 : Int32), .ref 13] (hp2 := [.inr (5, [.ref 1, .ref 2, .ref 3, .ref 8, .ref 13, .ref 14, .ref 15, .ref 17, .int (0 : Int32), .int (0 : Int32), .long (0 : Int64), .long (1 : Int64)]), .inl (3, 6, .inr (.inr (.inr (.inr (va_up (va_up (va_up (va_up (va_up (va_up (fun _ => none) 0 (some 18)) 1 (some 20)) 2 (some 22)) 3 (some 24)) 4 (some 26)) 5 (some 28)))))), .inl (4, 4, .inr (.inr (.inr (.inr (va_up (va_up (va_up (va_up (fun _ => none) 0 (some 30)) 1 (some 32)) 2 (some 34)) 3 (some 36)))))), .inr (0, [.ref 4, .ref 5, .ref 6, .ref 7, .int (0 : Int32), .int (0 : Int32), .int (0 : Int32), .int (0 : Int32), .int (0 : Int32)]), .inl (0, 6, .inl (fun _ => 0)), .inl (0, 6, .inl (fun _ => 0)), .inl (0, 6, .inl (fun _ => 0)), .inl (0, 40, .inl (fun _ => 0)), .inr (0, [.ref 9, .ref 10, .ref 11, .ref 12, .int (0 : Int32), .int (0 : Int32), .int (0 : Int32), .int (0 : Int32), .int (0 : Int32)]), .inl (0, 6, .inl (fun _ => 0)), .inl (0, 6, .inl (fun _ => 0)), .inl (0, 6, .inl (fun _ => 0)), .inl (0, 40, .inl (fun _ => 0)), .inl (5, 3, .inr (.inr (.inr (.inr (va_up (va_up (fun _ => none) 0 (some 38)) 1 (some 43)))))), .inr (2, [.int (0 : Int32), .int (0 : Int32)]), .inr (1, [.ref 3, .ref 16]), .inl (0, 64, .inl (fun _ => 0)), .inl (0, 6, .inl (fun _ => 0)), .inr (3, [.ref 19, .int (-1 : Int32)]), .inl (0, 40, .inl (fun _ => 0)), .inr (3, [.ref 21, .int (-1 : Int32)]), .inl (0, 40, .inl (fun _ => 0)), .inr (3, [.ref 23, .int (-1 : Int32)]), .inl (0, 40, .inl (fun _ => 0)), .inr (3, [.ref 25, .int (-1 : Int32)]), .inl (0, 40, .inl (fun _ => 0)), .inr (3, [.ref 27, .int (-1 : Int32)]), .inl (0, 40, .inl (fun _ => 0)), .inr (3, [.ref 29, .int (-1 : Int32)]), .inl (0, 40, .inl (fun _ => 0)), .inr (4, [.ref 31, .int (-1 : Int32)]), .inl (2, 60, .inl (fun _ => 0)), .inr (4, [.ref 33, .int (-1 : Int32)]), .inl (2, 60, .inl (fun _ => 0)), .inr (4, [.ref 35, .int (-1 : Int32)]), .inl (2, 60, .inl (fun _ => 0)), .inr (4, [.ref 37, .int (-1 : Int32)]), .inl (2, 60, .inl (fun _ => 0)), .inr (0, [.ref 39, .ref 40, .ref 41, .ref 42, .int (0 : Int32), .int (0 : Int32), .int (0 : Int32), .int (0 : Int32), .int (0 : Int32)]), .inl (0, 6, .inl (fun _ => 0)), .inl (0, 6, .inl (fun _ => 0)), .inl (0, 6, .inl (fun _ => 0)), .inl (0, 40, .inl (fun _ => 0)), .inr (0, [.ref 44, .ref 45, .ref 46, .ref 47, .int (0 : Int32), .int (0 : Int32), .int (0 : Int32), .int (0 : Int32), .int (0 : Int32)]), .inl (0, 6, .inl (fun _ => 0)), .inl (0, 6, .inl (fun _ => 0)), .inl (0, 6, .inl (fun _ => 0)), .inl (0, 40, .inl (fun _ => 0)), .inr (0, [.ref 49, .ref 50, .ref 51, .ref 52, .int (0 : Int32), .int (0 : Int32), .int (0 : Int32), .int (0 : Int32), .int (0 : Int32)]), .inl (0, 6, .inl (fun _ => 0)), .inl (0, 6, .inl (fun _ => 0)), .inl (0, 6, .inl (fun _ => 0)), .inl (0, 40, .inl (fun _ => 0))]) CA.1 CA.2.1 nd_Nj_init_174 rfl (nj_neI CA.1).2.2.2.1 kx_Club_init_i kn_Club kx_Club_init_c rfl (by decide +kernel) ca_Club_init ⟨rfl, rfl, rfl⟩ (by decide) rfl rfl rfl rfl rfl rfl rfl ⟨rfl, rfl, rfl, rfl⟩ rfl rfl rfl rfl (fun ad38 hg38 => ?_)
  show nj_V G ad38 52 922 177 [some (.ref 0), some (.int (2 : Int32))] [.ref 48, .int (2 : Int32), .ref 13] [.inr (5, [.ref 1, .ref 2, .ref 3, .ref 8, .ref 13, .ref 14, .ref 15, .ref 17, .int (0 : Int32), .int (0 : Int32), .long (0 : Int64), .long (1 : Int64)]), .inl (3, 6, .inr (.inr (.inr (.inr (va_up (va_up (va_up (va_up (va_up (va_up (fun _ => none) 0 (some 18)) 1 (some 20)) 2 (some 22)) 3 (some 24)) 4 (some 26)) 5 (some 28)))))), .inl (4, 4, .inr (.inr (.inr (.inr (va_up (va_up (va_up (va_up (fun _ => none) 0 (some 30)) 1 (some 32)) 2 (some 34)) 3 (some 36)))))), .inr (0, [.ref 4, .ref 5, .ref 6, .ref 7, .int (0 : Int32), .int (0 : Int32), .int (0 : Int32), .int (0 : Int32), .int (0 : Int32)]), .inl (0, 6, .inl (fun _ => 0)), .inl (0, 6, .inl (fun _ => 0)), .inl (0, 6, .inl (fun _ => 0)), .inl (0, 40, .inl (fun _ => 0)), .inr (0, [.ref 9, .ref 10, .ref 11, .ref 12, .int (0 : Int32), .int (0 : Int32), .int (0 : Int32), .int (0 : Int32), .int (0 : Int32)]), .inl (0, 6, .inl (fun _ => 0)), .inl (0, 6, .inl (fun _ => 0)), .inl (0, 6, .inl (fun _ => 0)), .inl (0, 40, .inl (fun _ => 0)), .inl (5, 3, .inr (.inr (.inr (.inr (va_up (va_up (fun _ => none) 0 (some 38)) 1 (some 43)))))), .inr (2, [.int (0 : Int32), .int (0 : Int32)]), .inr (1, [.ref 3, .ref 16]), .inl (0, 64, .inl (fun _ => 0)), .inl (0, 6, .inl (fun _ => 0)), .inr (3, [.ref 19, .int (-1 : Int32)]), .inl (0, 40, .inl (fun _ => 0)), .inr (3, [.ref 21, .int (-1 : Int32)]), .inl (0, 40, .inl (fun _ => 0)), .inr (3, [.ref 23, .int (-1 : Int32)]), .inl (0, 40, .inl (fun _ => 0)), .inr (3, [.ref 25, .int (-1 : Int32)]), .inl (0, 40, .inl (fun _ => 0)), .inr (3, [.ref 27, .int (-1 : Int32)]), .inl (0, 40, .inl (fun _ => 0)), .inr (3, [.ref 29, .int (-1 : Int32)]), .inl (0, 40, .inl (fun _ => 0)), .inr (4, [.ref 31, .int (-1 : Int32)]), .inl (2, 60, .inl (fun _ => 0)), .inr (4, [.ref 33, .int (-1 : Int32)]), .inl (2, 60, .inl (fun _ => 0)), .inr (4, [.ref 35, .int (-1 : Int32)]), .inl (2, 60, .inl (fun _ => 0)), .inr (4, [.ref 37, .int (-1 : Int32)]), .inl (2, 60, .inl (fun _ => 0)), .inr (0, [.ref 39, .ref 40, .ref 41, .ref 42, .int (0 : Int32), .int (0 : Int32), .int (0 : Int32), .int (0 : Int32), .int (0 : Int32)]), .inl (0, 6, .inl (fun _ => 0)), .inl (0, 6, .inl (fun _ => 0)), .inl (0, 6, .inl (fun _ => 0)), .inl (0, 40, .inl (fun _ => 0)), .inr (0, [.ref 44, .ref 45, .ref 46, .ref 47, .int (0 : Int32), .int (0 : Int32), .int (0 : Int32), .int (0 : Int32), .int (0 : Int32)]), .inl (0, 6, .inl (fun _ => 0)), .inl (0, 6, .inl (fun _ => 0)), .inl (0, 6, .inl (fun _ => 0)), .inl (0, 40, .inl (fun _ => 0)), .inr (0, [.ref 49, .ref 50, .ref 51, .ref 52, .int (0 : Int32), .int (0 : Int32), .int (0 : Int32), .int (0 : Int32), .int (0 : Int32)]), .inl (0, 6, .inl (fun _ => 0)), .inl (0, 6, .inl (fun _ => 0)), .inl (0, 6, .inl (fun _ => 0)), .inl (0, 40, .inl (fun _ => 0))]
  refine vr_aast5 (j := 2) (hp' := [.inr (5, [.ref 1, .ref 2, .ref 3, .ref 8, .ref 13, .ref 14, .ref 15, .ref 17, .int (0 : Int32), .int (0 : Int32), .long (0 : Int64), .long (1 : Int64)]), .inl (3, 6, .inr (.inr (.inr (.inr (va_up (va_up (va_up (va_up (va_up (va_up (fun _ => none) 0 (some 18)) 1 (some 20)) 2 (some 22)) 3 (some 24)) 4 (some 26)) 5 (some 28)))))), .inl (4, 4, .inr (.inr (.inr (.inr (va_up (va_up (va_up (va_up (fun _ => none) 0 (some 30)) 1 (some 32)) 2 (some 34)) 3 (some 36)))))), .inr (0, [.ref 4, .ref 5, .ref 6, .ref 7, .int (0 : Int32), .int (0 : Int32), .int (0 : Int32), .int (0 : Int32), .int (0 : Int32)]), .inl (0, 6, .inl (fun _ => 0)), .inl (0, 6, .inl (fun _ => 0)), .inl (0, 6, .inl (fun _ => 0)), .inl (0, 40, .inl (fun _ => 0)), .inr (0, [.ref 9, .ref 10, .ref 11, .ref 12, .int (0 : Int32), .int (0 : Int32), .int (0 : Int32), .int (0 : Int32), .int (0 : Int32)]), .inl (0, 6, .inl (fun _ => 0)), .inl (0, 6, .inl (fun _ => 0)), .inl (0, 6, .inl (fun _ => 0)), .inl (0, 40, .inl (fun _ => 0)), .inl (5, 3, .inr (.inr (.inr (.inr (va_up (va_up (va_up (fun _ => none) 0 (some 38)) 1 (some 43)) 2 (some 48)))))), .inr (2, [.int (0 : Int32), .int (0 : Int32)]), .inr (1, [.ref 3, .ref 16]), .inl (0, 64, .inl (fun _ => 0)), .inl (0, 6, .inl (fun _ => 0)), .inr (3, [.ref 19, .int (-1 : Int32)]), .inl (0, 40, .inl (fun _ => 0)), .inr (3, [.ref 21, .int (-1 : Int32)]), .inl (0, 40, .inl (fun _ => 0)), .inr (3, [.ref 23, .int (-1 : Int32)]), .inl (0, 40, .inl (fun _ => 0)), .inr (3, [.ref 25, .int (-1 : Int32)]), .inl (0, 40, .inl (fun _ => 0)), .inr (3, [.ref 27, .int (-1 : Int32)]), .inl (0, 40, .inl (fun _ => 0)), .inr (3, [.ref 29, .int (-1 : Int32)]), .inl (0, 40, .inl (fun _ => 0)), .inr (4, [.ref 31, .int (-1 : Int32)]), .inl (2, 60, .inl (fun _ => 0)), .inr (4, [.ref 33, .int (-1 : Int32)]), .inl (2, 60, .inl (fun _ => 0)), .inr (4, [.ref 35, .int (-1 : Int32)]), .inl (2, 60, .inl (fun _ => 0)), .inr (4, [.ref 37, .int (-1 : Int32)]), .inl (2, 60, .inl (fun _ => 0)), .inr (0, [.ref 39, .ref 40, .ref 41, .ref 42, .int (0 : Int32), .int (0 : Int32), .int (0 : Int32), .int (0 : Int32), .int (0 : Int32)]), .inl (0, 6, .inl (fun _ => 0)), .inl (0, 6, .inl (fun _ => 0)), .inl (0, 6, .inl (fun _ => 0)), .inl (0, 40, .inl (fun _ => 0)), .inr (0, [.ref 44, .ref 45, .ref 46, .ref 47, .int (0 : Int32), .int (0 : Int32), .int (0 : Int32), .int (0 : Int32), .int (0 : Int32)]), .inl (0, 6, .inl (fun _ => 0)), .inl (0, 6, .inl (fun _ => 0)), .inl (0, 6, .inl (fun _ => 0)), .inl (0, 40, .inl (fun _ => 0)), .inr (0, [.ref 49, .ref 50, .ref 51, .ref 52, .int (0 : Int32), .int (0 : Int32), .int (0 : Int32), .int (0 : Int32), .int (0 : Int32)]), .inl (0, 6, .inl (fun _ => 0)), .inl (0, 6, .inl (fun _ => 0)), .inl (0, 6, .inl (fun _ => 0)), .inl (0, 40, .inl (fun _ => 0))]) CA.1 nd_Nj_init_177 rfl rfl rfl rfl (nj_inc rfl) (by decide) rfl ?_
  refine vr_inc (v := (3 : Int32)) (ls' := [some (.ref 0), some (.int (3 : Int32))]) CA.1 nd_Nj_init_178 rfl rfl rfl (by decide) rfl ?_
  refine vr_go CA.1 nd_Nj_init_181 ?_
  refine vr_il CA.1 nd_Nj_init_160 rfl ?_
  refine vr_ic CA.1 nd_Nj_init_161 ?_
  refine vr_cm_ge CA.1 nd_Nj_init_162 (fun _ => ?_) (fun hc => absurd hc (by decide))
  exact vr_vretA CA.1 hq (nj_agt (nj_agt (nj_agt (nj_agt (nj_agt (nj_agt (nj_agt (nj_agt (nj_agt (nj_agt (nj_agt (nj_agt (nj_agt (nj_agt (nj_agt (nj_agt (nj_agt (nj_agt (nj_agt (nj_agt (nj_agt (nj_agt (nj_agt (nj_agt (nj_agt (nj_agt (nj_agt (nj_agt (nj_agt (nj_agt (nj_agt (nj_agt (nj_agt (nj_agt (nj_agt (nj_agt (nj_agt (nj_agt (nj_agr 1 ad) hg1 rfl) hg2 rfl) hg3 rfl) hg4 rfl) hg5 rfl) hg6 rfl) hg7 rfl) hg8 rfl) hg9 rfl) hg10 rfl) hg11 rfl) hg12 rfl) hg13 rfl) hg14 rfl) hg15 rfl) hg16 rfl) hg17 rfl) hg18 rfl) hg19 rfl) hg20 rfl) hg21 rfl) hg22 rfl) hg23 rfl) hg24 rfl) hg25 rfl) hg26 rfl) hg27 rfl) hg28 rfl) hg29 rfl) hg30 rfl) hg31 rfl) hg32 rfl) hg33 rfl) hg34 rfl) hg35 rfl) hg36 rfl) hg37 rfl) hg38 rfl) nd_Nj_init_184 rfl
abbrev nr_Md_init : Room := { frames := 1, cells := 12, slots := 3016, locals := 20 }
theorem ca_Md_init : nj_ConA ny_Md_init nb_Md_init 2 nr_Md_init 12 3016 [.inr (6, [.null, .int 0, .null, .null, .null, .null, .null, .int 0, .long 0, .long 0, .int 0, .null, .int 0, .int 0, .int 0, .int 0, .null, .int 0, .null, .int 0, .null, .null, .null])] [.ref 0] [.inr (6, [.ref 1, .int 0, .ref 2, .ref 3, .ref 4, .ref 5, .ref 6, .int 0, .long 0, .long (1 : Int64), .int 0, .ref 7, .int 0, .int 0, .int 0, .int 0, .ref 8, .int 0, .ref 9, .int 0, .ref 10, .ref 11, .ref 12]), .inl (0, 2304, .inl (upd (upd (upd (fun _ => 0) 576 (-1 : Int32)) 1152 (-1 : Int32)) 1728 (-1 : Int32))), .inl (0, 6, .inl (fun _ => 0)), .inl (0, 6, .inl (upd (upd (upd (upd (upd (upd (fun _ => 0) 0 (-1 : Int32)) 1 (-1 : Int32)) 2 (-1 : Int32)) 3 (-1 : Int32)) 4 (-1 : Int32)) 5 (-1 : Int32))), .inl (0, 240, .inl (fun _ => 0)), .inl (0, 4, .inl (upd (upd (upd (upd (fun _ => 0) 0 (-1 : Int32)) 1 (-1 : Int32)) 2 (-1 : Int32)) 3 (-1 : Int32))), .inl (0, 240, .inl (fun _ => 0)), .inl (0, 6, .inl (fun _ => 0)), .inl (0, 12, .inl (fun _ => 0)), .inl (0, 6, .inl (fun _ => 0)), .inl (0, 64, .inl (fun _ => 0)), .inl (0, 64, .inl (fun _ => 0)), .inl (1, 64, .inr (.inl (fun _ => 0)))] := by
  refine nj_conA (by decide) rfl 1 rfl (fun G ad CA hq => ?_)
  have CA : nj_CA G nb_Md_init 2 "NobodyJoinsModel" nr_Md_init := CA
  show nj_V G ad 0 0 0 [some (.ref 0), none] [] [.inr (6, [.null, .int 0, .null, .null, .null, .null, .null, .int 0, .long 0, .long 0, .int 0, .null, .int 0, .int 0, .int 0, .int 0, .null, .int 0, .null, .int 0, .null, .null, .null])]
  refine vr_al CA.1 nd_Md_init_0 rfl ?_
  refine vr_oin CA.1 nd_Md_init_1 rfl ko_Md kx_i kx_c rfl rfl rfl ?_
  refine vr_al CA.1 nd_Md_init_4 rfl ?_
  refine vr_ic CA.1 nd_Md_init_5 ?_
  refine vr_newI 2304 CA.1 nd_Md_init_8 rfl kw_int (by decide) (by decide) rfl rfl rfl rfl rfl (fun ad1 hg1 => ?_)
  show nj_V G ad1 1 2304 10 [some (.ref 0), none] [.ref 1, .ref 0] [.inr (6, [.null, .int 0, .null, .null, .null, .null, .null, .int 0, .long 0, .long 0, .int 0, .null, .int 0, .int 0, .int 0, .int 0, .null, .int 0, .null, .int 0, .null, .null, .null]), .inl (0, 2304, .inl (fun _ => 0))]
  refine vr_putF (hp' := [.inr (6, [.ref 1, .int 0, .null, .null, .null, .null, .null, .int 0, .long 0, .long 0, .int 0, .null, .int 0, .int 0, .int 0, .int 0, .null, .int 0, .null, .int 0, .null, .null, .null]), .inl (0, 2304, .inl (fun _ => 0))]) CA nd_Md_init_10 rfl fl_Md_7 (fun r hr => by cases hr; rfl) (fun _ => rfl) (fun _ => rfl) rfl rfl rfl ?_
  refine vr_al CA.1 nd_Md_init_13 rfl ?_
  refine vr_ic CA.1 nd_Md_init_14 ?_
  refine vr_newI 6 CA.1 nd_Md_init_16 rfl kw_int (by decide) (by decide) rfl rfl rfl rfl rfl (fun ad2 hg2 => ?_)
  show nj_V G ad2 2 2310 18 [some (.ref 0), none] [.ref 2, .ref 0] [.inr (6, [.ref 1, .int 0, .null, .null, .null, .null, .null, .int 0, .long 0, .long 0, .int 0, .null, .int 0, .int 0, .int 0, .int 0, .null, .int 0, .null, .int 0, .null, .null, .null]), .inl (0, 2304, .inl (fun _ => 0)), .inl (0, 6, .inl (fun _ => 0))]
  refine vr_putF (hp' := [.inr (6, [.ref 1, .int 0, .ref 2, .null, .null, .null, .null, .int 0, .long 0, .long 0, .int 0, .null, .int 0, .int 0, .int 0, .int 0, .null, .int 0, .null, .int 0, .null, .null, .null]), .inl (0, 2304, .inl (fun _ => 0)), .inl (0, 6, .inl (fun _ => 0))]) CA nd_Md_init_18 rfl fl_Md_13 (fun r hr => by cases hr; rfl) (fun _ => rfl) (fun _ => rfl) rfl rfl rfl ?_
  refine vr_al CA.1 nd_Md_init_21 rfl ?_
  refine vr_ic CA.1 nd_Md_init_22 ?_
  refine vr_newI 6 CA.1 nd_Md_init_24 rfl kw_int (by decide) (by decide) rfl rfl rfl rfl rfl (fun ad3 hg3 => ?_)
  show nj_V G ad3 3 2316 26 [some (.ref 0), none] [.ref 3, .ref 0] [.inr (6, [.ref 1, .int 0, .ref 2, .null, .null, .null, .null, .int 0, .long 0, .long 0, .int 0, .null, .int 0, .int 0, .int 0, .int 0, .null, .int 0, .null, .int 0, .null, .null, .null]), .inl (0, 2304, .inl (fun _ => 0)), .inl (0, 6, .inl (fun _ => 0)), .inl (0, 6, .inl (fun _ => 0))]
  refine vr_dup CA.1 nd_Md_init_26 rfl rfl ?_
  refine vr_ic CA.1 nd_Md_init_27 ?_
  refine vr_ic CA.1 nd_Md_init_28 ?_
  refine vr_iask (j := 0) (hp' := [.inr (6, [.ref 1, .int 0, .ref 2, .null, .null, .null, .null, .int 0, .long 0, .long 0, .int 0, .null, .int 0, .int 0, .int 0, .int 0, .null, .int 0, .null, .int 0, .null, .null, .null]), .inl (0, 2304, .inl (fun _ => 0)), .inl (0, 6, .inl (fun _ => 0)), .inl (0, 6, .inl (upd (fun _ => 0) 0 (-1 : Int32)))]) CA.1 nd_Md_init_29 rfl rfl (nj_inc rfl) (by decide) rfl ?_
  refine vr_dup CA.1 nd_Md_init_30 rfl rfl ?_
  refine vr_ic CA.1 nd_Md_init_31 ?_
  refine vr_ic CA.1 nd_Md_init_32 ?_
  refine vr_iask (j := 1) (hp' := [.inr (6, [.ref 1, .int 0, .ref 2, .null, .null, .null, .null, .int 0, .long 0, .long 0, .int 0, .null, .int 0, .int 0, .int 0, .int 0, .null, .int 0, .null, .int 0, .null, .null, .null]), .inl (0, 2304, .inl (fun _ => 0)), .inl (0, 6, .inl (fun _ => 0)), .inl (0, 6, .inl (upd (upd (fun _ => 0) 0 (-1 : Int32)) 1 (-1 : Int32)))]) CA.1 nd_Md_init_33 rfl rfl (nj_inc rfl) (by decide) rfl ?_
  refine vr_dup CA.1 nd_Md_init_34 rfl rfl ?_
  refine vr_ic CA.1 nd_Md_init_35 ?_
  refine vr_ic CA.1 nd_Md_init_36 ?_
  refine vr_iask (j := 2) (hp' := [.inr (6, [.ref 1, .int 0, .ref 2, .null, .null, .null, .null, .int 0, .long 0, .long 0, .int 0, .null, .int 0, .int 0, .int 0, .int 0, .null, .int 0, .null, .int 0, .null, .null, .null]), .inl (0, 2304, .inl (fun _ => 0)), .inl (0, 6, .inl (fun _ => 0)), .inl (0, 6, .inl (upd (upd (upd (fun _ => 0) 0 (-1 : Int32)) 1 (-1 : Int32)) 2 (-1 : Int32)))]) CA.1 nd_Md_init_37 rfl rfl (nj_inc rfl) (by decide) rfl ?_
  refine vr_dup CA.1 nd_Md_init_38 rfl rfl ?_
  refine vr_ic CA.1 nd_Md_init_39 ?_
  refine vr_ic CA.1 nd_Md_init_40 ?_
  refine vr_iask (j := 3) (hp' := [.inr (6, [.ref 1, .int 0, .ref 2, .null, .null, .null, .null, .int 0, .long 0, .long 0, .int 0, .null, .int 0, .int 0, .int 0, .int 0, .null, .int 0, .null, .int 0, .null, .null, .null]), .inl (0, 2304, .inl (fun _ => 0)), .inl (0, 6, .inl (fun _ => 0)), .inl (0, 6, .inl (upd (upd (upd (upd (fun _ => 0) 0 (-1 : Int32)) 1 (-1 : Int32)) 2 (-1 : Int32)) 3 (-1 : Int32)))]) CA.1 nd_Md_init_41 rfl rfl (nj_inc rfl) (by decide) rfl ?_
  refine vr_dup CA.1 nd_Md_init_42 rfl rfl ?_
  refine vr_ic CA.1 nd_Md_init_43 ?_
  refine vr_ic CA.1 nd_Md_init_44 ?_
  refine vr_iask (j := 4) (hp' := [.inr (6, [.ref 1, .int 0, .ref 2, .null, .null, .null, .null, .int 0, .long 0, .long 0, .int 0, .null, .int 0, .int 0, .int 0, .int 0, .null, .int 0, .null, .int 0, .null, .null, .null]), .inl (0, 2304, .inl (fun _ => 0)), .inl (0, 6, .inl (fun _ => 0)), .inl (0, 6, .inl (upd (upd (upd (upd (upd (fun _ => 0) 0 (-1 : Int32)) 1 (-1 : Int32)) 2 (-1 : Int32)) 3 (-1 : Int32)) 4 (-1 : Int32)))]) CA.1 nd_Md_init_45 rfl rfl (nj_inc rfl) (by decide) rfl ?_
  refine vr_dup CA.1 nd_Md_init_46 rfl rfl ?_
  refine vr_ic CA.1 nd_Md_init_47 ?_
  refine vr_ic CA.1 nd_Md_init_48 ?_
  refine vr_iask (j := 5) (hp' := [.inr (6, [.ref 1, .int 0, .ref 2, .null, .null, .null, .null, .int 0, .long 0, .long 0, .int 0, .null, .int 0, .int 0, .int 0, .int 0, .null, .int 0, .null, .int 0, .null, .null, .null]), .inl (0, 2304, .inl (fun _ => 0)), .inl (0, 6, .inl (fun _ => 0)), .inl (0, 6, .inl (upd (upd (upd (upd (upd (upd (fun _ => 0) 0 (-1 : Int32)) 1 (-1 : Int32)) 2 (-1 : Int32)) 3 (-1 : Int32)) 4 (-1 : Int32)) 5 (-1 : Int32)))]) CA.1 nd_Md_init_49 rfl rfl (nj_inc rfl) (by decide) rfl ?_
  refine vr_putF (hp' := [.inr (6, [.ref 1, .int 0, .ref 2, .ref 3, .null, .null, .null, .int 0, .long 0, .long 0, .int 0, .null, .int 0, .int 0, .int 0, .int 0, .null, .int 0, .null, .int 0, .null, .null, .null]), .inl (0, 2304, .inl (fun _ => 0)), .inl (0, 6, .inl (fun _ => 0)), .inl (0, 6, .inl (upd (upd (upd (upd (upd (upd (fun _ => 0) 0 (-1 : Int32)) 1 (-1 : Int32)) 2 (-1 : Int32)) 3 (-1 : Int32)) 4 (-1 : Int32)) 5 (-1 : Int32)))]) CA nd_Md_init_50 rfl fl_Md_16 (fun r hr => by cases hr; rfl) (fun _ => rfl) (fun _ => rfl) rfl rfl rfl ?_
  refine vr_al CA.1 nd_Md_init_53 rfl ?_
  refine vr_ic CA.1 nd_Md_init_54 ?_
  refine vr_newI 240 CA.1 nd_Md_init_57 rfl kw_int (by decide) (by decide) rfl rfl rfl rfl rfl (fun ad4 hg4 => ?_)
  show nj_V G ad4 4 2556 59 [some (.ref 0), none] [.ref 4, .ref 0] [.inr (6, [.ref 1, .int 0, .ref 2, .ref 3, .null, .null, .null, .int 0, .long 0, .long 0, .int 0, .null, .int 0, .int 0, .int 0, .int 0, .null, .int 0, .null, .int 0, .null, .null, .null]), .inl (0, 2304, .inl (fun _ => 0)), .inl (0, 6, .inl (fun _ => 0)), .inl (0, 6, .inl (upd (upd (upd (upd (upd (upd (fun _ => 0) 0 (-1 : Int32)) 1 (-1 : Int32)) 2 (-1 : Int32)) 3 (-1 : Int32)) 4 (-1 : Int32)) 5 (-1 : Int32))), .inl (0, 240, .inl (fun _ => 0))]
  refine vr_putF (hp' := [.inr (6, [.ref 1, .int 0, .ref 2, .ref 3, .ref 4, .null, .null, .int 0, .long 0, .long 0, .int 0, .null, .int 0, .int 0, .int 0, .int 0, .null, .int 0, .null, .int 0, .null, .null, .null]), .inl (0, 2304, .inl (fun _ => 0)), .inl (0, 6, .inl (fun _ => 0)), .inl (0, 6, .inl (upd (upd (upd (upd (upd (upd (fun _ => 0) 0 (-1 : Int32)) 1 (-1 : Int32)) 2 (-1 : Int32)) 3 (-1 : Int32)) 4 (-1 : Int32)) 5 (-1 : Int32))), .inl (0, 240, .inl (fun _ => 0))]) CA nd_Md_init_59 rfl fl_Md_19 (fun r hr => by cases hr; rfl) (fun _ => rfl) (fun _ => rfl) rfl rfl rfl ?_
  refine vr_al CA.1 nd_Md_init_62 rfl ?_
  refine vr_ic CA.1 nd_Md_init_63 ?_
  refine vr_newI 4 CA.1 nd_Md_init_64 rfl kw_int (by decide) (by decide) rfl rfl rfl rfl rfl (fun ad5 hg5 => ?_)
  show nj_V G ad5 5 2560 66 [some (.ref 0), none] [.ref 5, .ref 0] [.inr (6, [.ref 1, .int 0, .ref 2, .ref 3, .ref 4, .null, .null, .int 0, .long 0, .long 0, .int 0, .null, .int 0, .int 0, .int 0, .int 0, .null, .int 0, .null, .int 0, .null, .null, .null]), .inl (0, 2304, .inl (fun _ => 0)), .inl (0, 6, .inl (fun _ => 0)), .inl (0, 6, .inl (upd (upd (upd (upd (upd (upd (fun _ => 0) 0 (-1 : Int32)) 1 (-1 : Int32)) 2 (-1 : Int32)) 3 (-1 : Int32)) 4 (-1 : Int32)) 5 (-1 : Int32))), .inl (0, 240, .inl (fun _ => 0)), .inl (0, 4, .inl (fun _ => 0))]
  refine vr_dup CA.1 nd_Md_init_66 rfl rfl ?_
  refine vr_ic CA.1 nd_Md_init_67 ?_
  refine vr_ic CA.1 nd_Md_init_68 ?_
  refine vr_iask (j := 0) (hp' := [.inr (6, [.ref 1, .int 0, .ref 2, .ref 3, .ref 4, .null, .null, .int 0, .long 0, .long 0, .int 0, .null, .int 0, .int 0, .int 0, .int 0, .null, .int 0, .null, .int 0, .null, .null, .null]), .inl (0, 2304, .inl (fun _ => 0)), .inl (0, 6, .inl (fun _ => 0)), .inl (0, 6, .inl (upd (upd (upd (upd (upd (upd (fun _ => 0) 0 (-1 : Int32)) 1 (-1 : Int32)) 2 (-1 : Int32)) 3 (-1 : Int32)) 4 (-1 : Int32)) 5 (-1 : Int32))), .inl (0, 240, .inl (fun _ => 0)), .inl (0, 4, .inl (upd (fun _ => 0) 0 (-1 : Int32)))]) CA.1 nd_Md_init_69 rfl rfl (nj_inc rfl) (by decide) rfl ?_
  refine vr_dup CA.1 nd_Md_init_70 rfl rfl ?_
  refine vr_ic CA.1 nd_Md_init_71 ?_
  refine vr_ic CA.1 nd_Md_init_72 ?_
  refine vr_iask (j := 1) (hp' := [.inr (6, [.ref 1, .int 0, .ref 2, .ref 3, .ref 4, .null, .null, .int 0, .long 0, .long 0, .int 0, .null, .int 0, .int 0, .int 0, .int 0, .null, .int 0, .null, .int 0, .null, .null, .null]), .inl (0, 2304, .inl (fun _ => 0)), .inl (0, 6, .inl (fun _ => 0)), .inl (0, 6, .inl (upd (upd (upd (upd (upd (upd (fun _ => 0) 0 (-1 : Int32)) 1 (-1 : Int32)) 2 (-1 : Int32)) 3 (-1 : Int32)) 4 (-1 : Int32)) 5 (-1 : Int32))), .inl (0, 240, .inl (fun _ => 0)), .inl (0, 4, .inl (upd (upd (fun _ => 0) 0 (-1 : Int32)) 1 (-1 : Int32)))]) CA.1 nd_Md_init_73 rfl rfl (nj_inc rfl) (by decide) rfl ?_
  refine vr_dup CA.1 nd_Md_init_74 rfl rfl ?_
  refine vr_ic CA.1 nd_Md_init_75 ?_
  refine vr_ic CA.1 nd_Md_init_76 ?_
  refine vr_iask (j := 2) (hp' := [.inr (6, [.ref 1, .int 0, .ref 2, .ref 3, .ref 4, .null, .null, .int 0, .long 0, .long 0, .int 0, .null, .int 0, .int 0, .int 0, .int 0, .null, .int 0, .null, .int 0, .null, .null, .null]), .inl (0, 2304, .inl (fun _ => 0)), .inl (0, 6, .inl (fun _ => 0)), .inl (0, 6, .inl (upd (upd (upd (upd (upd (upd (fun _ => 0) 0 (-1 : Int32)) 1 (-1 : Int32)) 2 (-1 : Int32)) 3 (-1 : Int32)) 4 (-1 : Int32)) 5 (-1 : Int32))), .inl (0, 240, .inl (fun _ => 0)), .inl (0, 4, .inl (upd (upd (upd (fun _ => 0) 0 (-1 : Int32)) 1 (-1 : Int32)) 2 (-1 : Int32)))]) CA.1 nd_Md_init_77 rfl rfl (nj_inc rfl) (by decide) rfl ?_
  refine vr_dup CA.1 nd_Md_init_78 rfl rfl ?_
  refine vr_ic CA.1 nd_Md_init_79 ?_
  refine vr_ic CA.1 nd_Md_init_80 ?_
  refine vr_iask (j := 3) (hp' := [.inr (6, [.ref 1, .int 0, .ref 2, .ref 3, .ref 4, .null, .null, .int 0, .long 0, .long 0, .int 0, .null, .int 0, .int 0, .int 0, .int 0, .null, .int 0, .null, .int 0, .null, .null, .null]), .inl (0, 2304, .inl (fun _ => 0)), .inl (0, 6, .inl (fun _ => 0)), .inl (0, 6, .inl (upd (upd (upd (upd (upd (upd (fun _ => 0) 0 (-1 : Int32)) 1 (-1 : Int32)) 2 (-1 : Int32)) 3 (-1 : Int32)) 4 (-1 : Int32)) 5 (-1 : Int32))), .inl (0, 240, .inl (fun _ => 0)), .inl (0, 4, .inl (upd (upd (upd (upd (fun _ => 0) 0 (-1 : Int32)) 1 (-1 : Int32)) 2 (-1 : Int32)) 3 (-1 : Int32)))]) CA.1 nd_Md_init_81 rfl rfl (nj_inc rfl) (by decide) rfl ?_
  refine vr_putF (hp' := [.inr (6, [.ref 1, .int 0, .ref 2, .ref 3, .ref 4, .ref 5, .null, .int 0, .long 0, .long 0, .int 0, .null, .int 0, .int 0, .int 0, .int 0, .null, .int 0, .null, .int 0, .null, .null, .null]), .inl (0, 2304, .inl (fun _ => 0)), .inl (0, 6, .inl (fun _ => 0)), .inl (0, 6, .inl (upd (upd (upd (upd (upd (upd (fun _ => 0) 0 (-1 : Int32)) 1 (-1 : Int32)) 2 (-1 : Int32)) 3 (-1 : Int32)) 4 (-1 : Int32)) 5 (-1 : Int32))), .inl (0, 240, .inl (fun _ => 0)), .inl (0, 4, .inl (upd (upd (upd (upd (fun _ => 0) 0 (-1 : Int32)) 1 (-1 : Int32)) 2 (-1 : Int32)) 3 (-1 : Int32)))]) CA nd_Md_init_82 rfl fl_Md_22 (fun r hr => by cases hr; rfl) (fun _ => rfl) (fun _ => rfl) rfl rfl rfl ?_
  refine vr_al CA.1 nd_Md_init_85 rfl ?_
  refine vr_ic CA.1 nd_Md_init_86 ?_
  refine vr_newI 240 CA.1 nd_Md_init_89 rfl kw_int (by decide) (by decide) rfl rfl rfl rfl rfl (fun ad6 hg6 => ?_)
  show nj_V G ad6 6 2800 91 [some (.ref 0), none] [.ref 6, .ref 0] [.inr (6, [.ref 1, .int 0, .ref 2, .ref 3, .ref 4, .ref 5, .null, .int 0, .long 0, .long 0, .int 0, .null, .int 0, .int 0, .int 0, .int 0, .null, .int 0, .null, .int 0, .null, .null, .null]), .inl (0, 2304, .inl (fun _ => 0)), .inl (0, 6, .inl (fun _ => 0)), .inl (0, 6, .inl (upd (upd (upd (upd (upd (upd (fun _ => 0) 0 (-1 : Int32)) 1 (-1 : Int32)) 2 (-1 : Int32)) 3 (-1 : Int32)) 4 (-1 : Int32)) 5 (-1 : Int32))), .inl (0, 240, .inl (fun _ => 0)), .inl (0, 4, .inl (upd (upd (upd (upd (fun _ => 0) 0 (-1 : Int32)) 1 (-1 : Int32)) 2 (-1 : Int32)) 3 (-1 : Int32))), .inl (0, 240, .inl (fun _ => 0))]
  refine vr_putF (hp' := [.inr (6, [.ref 1, .int 0, .ref 2, .ref 3, .ref 4, .ref 5, .ref 6, .int 0, .long 0, .long 0, .int 0, .null, .int 0, .int 0, .int 0, .int 0, .null, .int 0, .null, .int 0, .null, .null, .null]), .inl (0, 2304, .inl (fun _ => 0)), .inl (0, 6, .inl (fun _ => 0)), .inl (0, 6, .inl (upd (upd (upd (upd (upd (upd (fun _ => 0) 0 (-1 : Int32)) 1 (-1 : Int32)) 2 (-1 : Int32)) 3 (-1 : Int32)) 4 (-1 : Int32)) 5 (-1 : Int32))), .inl (0, 240, .inl (fun _ => 0)), .inl (0, 4, .inl (upd (upd (upd (upd (fun _ => 0) 0 (-1 : Int32)) 1 (-1 : Int32)) 2 (-1 : Int32)) 3 (-1 : Int32))), .inl (0, 240, .inl (fun _ => 0))]) CA nd_Md_init_91 rfl fl_Md_25 (fun r hr => by cases hr; rfl) (fun _ => rfl) (fun _ => rfl) rfl rfl rfl ?_
  refine vr_al CA.1 nd_Md_init_94 rfl ?_
  refine vr_lc (v := (1 : Int64)) CA.1 nd_Md_init_95 rfl (by decide) ?_
  refine vr_putl (hp' := [.inr (6, [.ref 1, .int 0, .ref 2, .ref 3, .ref 4, .ref 5, .ref 6, .int 0, .long 0, .long (1 : Int64), .int 0, .null, .int 0, .int 0, .int 0, .int 0, .null, .int 0, .null, .int 0, .null, .null, .null]), .inl (0, 2304, .inl (fun _ => 0)), .inl (0, 6, .inl (fun _ => 0)), .inl (0, 6, .inl (upd (upd (upd (upd (upd (upd (fun _ => 0) 0 (-1 : Int32)) 1 (-1 : Int32)) 2 (-1 : Int32)) 3 (-1 : Int32)) 4 (-1 : Int32)) 5 (-1 : Int32))), .inl (0, 240, .inl (fun _ => 0)), .inl (0, 4, .inl (upd (upd (upd (upd (fun _ => 0) 0 (-1 : Int32)) 1 (-1 : Int32)) 2 (-1 : Int32)) 3 (-1 : Int32))), .inl (0, 240, .inl (fun _ => 0))]) CA.1 nd_Md_init_96 rfl fl_Md_28 rfl rfl rfl ?_
  refine vr_al CA.1 nd_Md_init_99 rfl ?_
  refine vr_ic CA.1 nd_Md_init_100 ?_
  refine vr_newI 6 CA.1 nd_Md_init_102 rfl kw_int (by decide) (by decide) rfl rfl rfl rfl rfl (fun ad7 hg7 => ?_)
  show nj_V G ad7 7 2806 104 [some (.ref 0), none] [.ref 7, .ref 0] [.inr (6, [.ref 1, .int 0, .ref 2, .ref 3, .ref 4, .ref 5, .ref 6, .int 0, .long 0, .long (1 : Int64), .int 0, .null, .int 0, .int 0, .int 0, .int 0, .null, .int 0, .null, .int 0, .null, .null, .null]), .inl (0, 2304, .inl (fun _ => 0)), .inl (0, 6, .inl (fun _ => 0)), .inl (0, 6, .inl (upd (upd (upd (upd (upd (upd (fun _ => 0) 0 (-1 : Int32)) 1 (-1 : Int32)) 2 (-1 : Int32)) 3 (-1 : Int32)) 4 (-1 : Int32)) 5 (-1 : Int32))), .inl (0, 240, .inl (fun _ => 0)), .inl (0, 4, .inl (upd (upd (upd (upd (fun _ => 0) 0 (-1 : Int32)) 1 (-1 : Int32)) 2 (-1 : Int32)) 3 (-1 : Int32))), .inl (0, 240, .inl (fun _ => 0)), .inl (0, 6, .inl (fun _ => 0))]
  refine vr_putF (hp' := [.inr (6, [.ref 1, .int 0, .ref 2, .ref 3, .ref 4, .ref 5, .ref 6, .int 0, .long 0, .long (1 : Int64), .int 0, .ref 7, .int 0, .int 0, .int 0, .int 0, .null, .int 0, .null, .int 0, .null, .null, .null]), .inl (0, 2304, .inl (fun _ => 0)), .inl (0, 6, .inl (fun _ => 0)), .inl (0, 6, .inl (upd (upd (upd (upd (upd (upd (fun _ => 0) 0 (-1 : Int32)) 1 (-1 : Int32)) 2 (-1 : Int32)) 3 (-1 : Int32)) 4 (-1 : Int32)) 5 (-1 : Int32))), .inl (0, 240, .inl (fun _ => 0)), .inl (0, 4, .inl (upd (upd (upd (upd (fun _ => 0) 0 (-1 : Int32)) 1 (-1 : Int32)) 2 (-1 : Int32)) 3 (-1 : Int32))), .inl (0, 240, .inl (fun _ => 0)), .inl (0, 6, .inl (fun _ => 0))]) CA nd_Md_init_104 rfl fl_Md_32 (fun r hr => by cases hr; rfl) (fun _ => rfl) (fun _ => rfl) rfl rfl rfl ?_
  refine vr_al CA.1 nd_Md_init_107 rfl ?_
  refine vr_ic CA.1 nd_Md_init_108 ?_
  refine vr_newI 12 CA.1 nd_Md_init_110 rfl kw_int (by decide) (by decide) rfl rfl rfl rfl rfl (fun ad8 hg8 => ?_)
  show nj_V G ad8 8 2818 112 [some (.ref 0), none] [.ref 8, .ref 0] [.inr (6, [.ref 1, .int 0, .ref 2, .ref 3, .ref 4, .ref 5, .ref 6, .int 0, .long 0, .long (1 : Int64), .int 0, .ref 7, .int 0, .int 0, .int 0, .int 0, .null, .int 0, .null, .int 0, .null, .null, .null]), .inl (0, 2304, .inl (fun _ => 0)), .inl (0, 6, .inl (fun _ => 0)), .inl (0, 6, .inl (upd (upd (upd (upd (upd (upd (fun _ => 0) 0 (-1 : Int32)) 1 (-1 : Int32)) 2 (-1 : Int32)) 3 (-1 : Int32)) 4 (-1 : Int32)) 5 (-1 : Int32))), .inl (0, 240, .inl (fun _ => 0)), .inl (0, 4, .inl (upd (upd (upd (upd (fun _ => 0) 0 (-1 : Int32)) 1 (-1 : Int32)) 2 (-1 : Int32)) 3 (-1 : Int32))), .inl (0, 240, .inl (fun _ => 0)), .inl (0, 6, .inl (fun _ => 0)), .inl (0, 12, .inl (fun _ => 0))]
  refine vr_putF (hp' := [.inr (6, [.ref 1, .int 0, .ref 2, .ref 3, .ref 4, .ref 5, .ref 6, .int 0, .long 0, .long (1 : Int64), .int 0, .ref 7, .int 0, .int 0, .int 0, .int 0, .ref 8, .int 0, .null, .int 0, .null, .null, .null]), .inl (0, 2304, .inl (fun _ => 0)), .inl (0, 6, .inl (fun _ => 0)), .inl (0, 6, .inl (upd (upd (upd (upd (upd (upd (fun _ => 0) 0 (-1 : Int32)) 1 (-1 : Int32)) 2 (-1 : Int32)) 3 (-1 : Int32)) 4 (-1 : Int32)) 5 (-1 : Int32))), .inl (0, 240, .inl (fun _ => 0)), .inl (0, 4, .inl (upd (upd (upd (upd (fun _ => 0) 0 (-1 : Int32)) 1 (-1 : Int32)) 2 (-1 : Int32)) 3 (-1 : Int32))), .inl (0, 240, .inl (fun _ => 0)), .inl (0, 6, .inl (fun _ => 0)), .inl (0, 12, .inl (fun _ => 0))]) CA nd_Md_init_112 rfl fl_Md_35 (fun r hr => by cases hr; rfl) (fun _ => rfl) (fun _ => rfl) rfl rfl rfl ?_
  refine vr_al CA.1 nd_Md_init_115 rfl ?_
  refine vr_ic CA.1 nd_Md_init_116 ?_
  refine vr_newI 6 CA.1 nd_Md_init_118 rfl kw_int (by decide) (by decide) rfl rfl rfl rfl rfl (fun ad9 hg9 => ?_)
  show nj_V G ad9 9 2824 120 [some (.ref 0), none] [.ref 9, .ref 0] [.inr (6, [.ref 1, .int 0, .ref 2, .ref 3, .ref 4, .ref 5, .ref 6, .int 0, .long 0, .long (1 : Int64), .int 0, .ref 7, .int 0, .int 0, .int 0, .int 0, .ref 8, .int 0, .null, .int 0, .null, .null, .null]), .inl (0, 2304, .inl (fun _ => 0)), .inl (0, 6, .inl (fun _ => 0)), .inl (0, 6, .inl (upd (upd (upd (upd (upd (upd (fun _ => 0) 0 (-1 : Int32)) 1 (-1 : Int32)) 2 (-1 : Int32)) 3 (-1 : Int32)) 4 (-1 : Int32)) 5 (-1 : Int32))), .inl (0, 240, .inl (fun _ => 0)), .inl (0, 4, .inl (upd (upd (upd (upd (fun _ => 0) 0 (-1 : Int32)) 1 (-1 : Int32)) 2 (-1 : Int32)) 3 (-1 : Int32))), .inl (0, 240, .inl (fun _ => 0)), .inl (0, 6, .inl (fun _ => 0)), .inl (0, 12, .inl (fun _ => 0)), .inl (0, 6, .inl (fun _ => 0))]
  refine vr_putF (hp' := [.inr (6, [.ref 1, .int 0, .ref 2, .ref 3, .ref 4, .ref 5, .ref 6, .int 0, .long 0, .long (1 : Int64), .int 0, .ref 7, .int 0, .int 0, .int 0, .int 0, .ref 8, .int 0, .ref 9, .int 0, .null, .null, .null]), .inl (0, 2304, .inl (fun _ => 0)), .inl (0, 6, .inl (fun _ => 0)), .inl (0, 6, .inl (upd (upd (upd (upd (upd (upd (fun _ => 0) 0 (-1 : Int32)) 1 (-1 : Int32)) 2 (-1 : Int32)) 3 (-1 : Int32)) 4 (-1 : Int32)) 5 (-1 : Int32))), .inl (0, 240, .inl (fun _ => 0)), .inl (0, 4, .inl (upd (upd (upd (upd (fun _ => 0) 0 (-1 : Int32)) 1 (-1 : Int32)) 2 (-1 : Int32)) 3 (-1 : Int32))), .inl (0, 240, .inl (fun _ => 0)), .inl (0, 6, .inl (fun _ => 0)), .inl (0, 12, .inl (fun _ => 0)), .inl (0, 6, .inl (fun _ => 0))]) CA nd_Md_init_120 rfl fl_Md_38 (fun r hr => by cases hr; rfl) (fun _ => rfl) (fun _ => rfl) rfl rfl rfl ?_
  refine vr_al CA.1 nd_Md_init_123 rfl ?_
  refine vr_ic CA.1 nd_Md_init_124 ?_
  refine vr_newI 64 CA.1 nd_Md_init_126 rfl kw_int (by decide) (by decide) rfl rfl rfl rfl rfl (fun ad10 hg10 => ?_)
  show nj_V G ad10 10 2888 128 [some (.ref 0), none] [.ref 10, .ref 0] [.inr (6, [.ref 1, .int 0, .ref 2, .ref 3, .ref 4, .ref 5, .ref 6, .int 0, .long 0, .long (1 : Int64), .int 0, .ref 7, .int 0, .int 0, .int 0, .int 0, .ref 8, .int 0, .ref 9, .int 0, .null, .null, .null]), .inl (0, 2304, .inl (fun _ => 0)), .inl (0, 6, .inl (fun _ => 0)), .inl (0, 6, .inl (upd (upd (upd (upd (upd (upd (fun _ => 0) 0 (-1 : Int32)) 1 (-1 : Int32)) 2 (-1 : Int32)) 3 (-1 : Int32)) 4 (-1 : Int32)) 5 (-1 : Int32))), .inl (0, 240, .inl (fun _ => 0)), .inl (0, 4, .inl (upd (upd (upd (upd (fun _ => 0) 0 (-1 : Int32)) 1 (-1 : Int32)) 2 (-1 : Int32)) 3 (-1 : Int32))), .inl (0, 240, .inl (fun _ => 0)), .inl (0, 6, .inl (fun _ => 0)), .inl (0, 12, .inl (fun _ => 0)), .inl (0, 6, .inl (fun _ => 0)), .inl (0, 64, .inl (fun _ => 0))]
  refine vr_putF (hp' := [.inr (6, [.ref 1, .int 0, .ref 2, .ref 3, .ref 4, .ref 5, .ref 6, .int 0, .long 0, .long (1 : Int64), .int 0, .ref 7, .int 0, .int 0, .int 0, .int 0, .ref 8, .int 0, .ref 9, .int 0, .ref 10, .null, .null]), .inl (0, 2304, .inl (fun _ => 0)), .inl (0, 6, .inl (fun _ => 0)), .inl (0, 6, .inl (upd (upd (upd (upd (upd (upd (fun _ => 0) 0 (-1 : Int32)) 1 (-1 : Int32)) 2 (-1 : Int32)) 3 (-1 : Int32)) 4 (-1 : Int32)) 5 (-1 : Int32))), .inl (0, 240, .inl (fun _ => 0)), .inl (0, 4, .inl (upd (upd (upd (upd (fun _ => 0) 0 (-1 : Int32)) 1 (-1 : Int32)) 2 (-1 : Int32)) 3 (-1 : Int32))), .inl (0, 240, .inl (fun _ => 0)), .inl (0, 6, .inl (fun _ => 0)), .inl (0, 12, .inl (fun _ => 0)), .inl (0, 6, .inl (fun _ => 0)), .inl (0, 64, .inl (fun _ => 0))]) CA nd_Md_init_128 rfl fl_Md_41 (fun r hr => by cases hr; rfl) (fun _ => rfl) (fun _ => rfl) rfl rfl rfl ?_
  refine vr_al CA.1 nd_Md_init_131 rfl ?_
  refine vr_ic CA.1 nd_Md_init_132 ?_
  refine vr_newI 64 CA.1 nd_Md_init_134 rfl kw_int (by decide) (by decide) rfl rfl rfl rfl rfl (fun ad11 hg11 => ?_)
  show nj_V G ad11 11 2952 136 [some (.ref 0), none] [.ref 11, .ref 0] [.inr (6, [.ref 1, .int 0, .ref 2, .ref 3, .ref 4, .ref 5, .ref 6, .int 0, .long 0, .long (1 : Int64), .int 0, .ref 7, .int 0, .int 0, .int 0, .int 0, .ref 8, .int 0, .ref 9, .int 0, .ref 10, .null, .null]), .inl (0, 2304, .inl (fun _ => 0)), .inl (0, 6, .inl (fun _ => 0)), .inl (0, 6, .inl (upd (upd (upd (upd (upd (upd (fun _ => 0) 0 (-1 : Int32)) 1 (-1 : Int32)) 2 (-1 : Int32)) 3 (-1 : Int32)) 4 (-1 : Int32)) 5 (-1 : Int32))), .inl (0, 240, .inl (fun _ => 0)), .inl (0, 4, .inl (upd (upd (upd (upd (fun _ => 0) 0 (-1 : Int32)) 1 (-1 : Int32)) 2 (-1 : Int32)) 3 (-1 : Int32))), .inl (0, 240, .inl (fun _ => 0)), .inl (0, 6, .inl (fun _ => 0)), .inl (0, 12, .inl (fun _ => 0)), .inl (0, 6, .inl (fun _ => 0)), .inl (0, 64, .inl (fun _ => 0)), .inl (0, 64, .inl (fun _ => 0))]
  refine vr_putF (hp' := [.inr (6, [.ref 1, .int 0, .ref 2, .ref 3, .ref 4, .ref 5, .ref 6, .int 0, .long 0, .long (1 : Int64), .int 0, .ref 7, .int 0, .int 0, .int 0, .int 0, .ref 8, .int 0, .ref 9, .int 0, .ref 10, .ref 11, .null]), .inl (0, 2304, .inl (fun _ => 0)), .inl (0, 6, .inl (fun _ => 0)), .inl (0, 6, .inl (upd (upd (upd (upd (upd (upd (fun _ => 0) 0 (-1 : Int32)) 1 (-1 : Int32)) 2 (-1 : Int32)) 3 (-1 : Int32)) 4 (-1 : Int32)) 5 (-1 : Int32))), .inl (0, 240, .inl (fun _ => 0)), .inl (0, 4, .inl (upd (upd (upd (upd (fun _ => 0) 0 (-1 : Int32)) 1 (-1 : Int32)) 2 (-1 : Int32)) 3 (-1 : Int32))), .inl (0, 240, .inl (fun _ => 0)), .inl (0, 6, .inl (fun _ => 0)), .inl (0, 12, .inl (fun _ => 0)), .inl (0, 6, .inl (fun _ => 0)), .inl (0, 64, .inl (fun _ => 0)), .inl (0, 64, .inl (fun _ => 0))]) CA nd_Md_init_136 rfl fl_Md_44 (fun r hr => by cases hr; rfl) (fun _ => rfl) (fun _ => rfl) rfl rfl rfl ?_
  refine vr_al CA.1 nd_Md_init_139 rfl ?_
  refine vr_ic CA.1 nd_Md_init_140 ?_
  refine vr_newL 64 CA.1 nd_Md_init_142 rfl kw_long (by decide) (by decide) rfl rfl rfl rfl rfl (fun ad12 hg12 => ?_)
  show nj_V G ad12 12 3016 144 [some (.ref 0), none] [.ref 12, .ref 0] [.inr (6, [.ref 1, .int 0, .ref 2, .ref 3, .ref 4, .ref 5, .ref 6, .int 0, .long 0, .long (1 : Int64), .int 0, .ref 7, .int 0, .int 0, .int 0, .int 0, .ref 8, .int 0, .ref 9, .int 0, .ref 10, .ref 11, .null]), .inl (0, 2304, .inl (fun _ => 0)), .inl (0, 6, .inl (fun _ => 0)), .inl (0, 6, .inl (upd (upd (upd (upd (upd (upd (fun _ => 0) 0 (-1 : Int32)) 1 (-1 : Int32)) 2 (-1 : Int32)) 3 (-1 : Int32)) 4 (-1 : Int32)) 5 (-1 : Int32))), .inl (0, 240, .inl (fun _ => 0)), .inl (0, 4, .inl (upd (upd (upd (upd (fun _ => 0) 0 (-1 : Int32)) 1 (-1 : Int32)) 2 (-1 : Int32)) 3 (-1 : Int32))), .inl (0, 240, .inl (fun _ => 0)), .inl (0, 6, .inl (fun _ => 0)), .inl (0, 12, .inl (fun _ => 0)), .inl (0, 6, .inl (fun _ => 0)), .inl (0, 64, .inl (fun _ => 0)), .inl (0, 64, .inl (fun _ => 0)), .inl (1, 64, .inr (.inl (fun _ => 0)))]
  refine vr_putF (hp' := [.inr (6, [.ref 1, .int 0, .ref 2, .ref 3, .ref 4, .ref 5, .ref 6, .int 0, .long 0, .long (1 : Int64), .int 0, .ref 7, .int 0, .int 0, .int 0, .int 0, .ref 8, .int 0, .ref 9, .int 0, .ref 10, .ref 11, .ref 12]), .inl (0, 2304, .inl (fun _ => 0)), .inl (0, 6, .inl (fun _ => 0)), .inl (0, 6, .inl (upd (upd (upd (upd (upd (upd (fun _ => 0) 0 (-1 : Int32)) 1 (-1 : Int32)) 2 (-1 : Int32)) 3 (-1 : Int32)) 4 (-1 : Int32)) 5 (-1 : Int32))), .inl (0, 240, .inl (fun _ => 0)), .inl (0, 4, .inl (upd (upd (upd (upd (fun _ => 0) 0 (-1 : Int32)) 1 (-1 : Int32)) 2 (-1 : Int32)) 3 (-1 : Int32))), .inl (0, 240, .inl (fun _ => 0)), .inl (0, 6, .inl (fun _ => 0)), .inl (0, 12, .inl (fun _ => 0)), .inl (0, 6, .inl (fun _ => 0)), .inl (0, 64, .inl (fun _ => 0)), .inl (0, 64, .inl (fun _ => 0)), .inl (1, 64, .inr (.inl (fun _ => 0)))]) CA nd_Md_init_144 rfl fl_Md_47 (fun r hr => by cases hr; rfl) (fun _ => rfl) (fun _ => rfl) rfl rfl rfl ?_
  refine vr_ic CA.1 nd_Md_init_147 ?_
  refine vr_is (ls' := [some (.ref 0), some (.int (1 : Int32))]) CA.1 nd_Md_init_148 rfl rfl ?_
  refine vr_il CA.1 nd_Md_init_149 rfl ?_
  refine vr_ic CA.1 nd_Md_init_150 ?_
  refine vr_cm_ge CA.1 nd_Md_init_151 (fun hc => absurd hc (by decide)) (fun _ => ?_)
  refine vr_al CA.1 nd_Md_init_154 rfl ?_
  refine vr_get (v := .ref 1) CA.1 nd_Md_init_155 rfl fl_Md_7 (q := 0) rfl rfl ?_
  refine vr_ic CA.1 nd_Md_init_158 ?_
  refine vr_il CA.1 nd_Md_init_161 rfl ?_
  refine vr_imul CA.1 nd_Md_init_162 rfl ?_
  show nj_V G ad12 12 3016 163 [some (.ref 0), some (.int (1 : Int32))] [.int (576 : Int32), .ref 1] [.inr (6, [.ref 1, .int 0, .ref 2, .ref 3, .ref 4, .ref 5, .ref 6, .int 0, .long 0, .long (1 : Int64), .int 0, .ref 7, .int 0, .int 0, .int 0, .int 0, .ref 8, .int 0, .ref 9, .int 0, .ref 10, .ref 11, .ref 12]), .inl (0, 2304, .inl (fun _ => 0)), .inl (0, 6, .inl (fun _ => 0)), .inl (0, 6, .inl (upd (upd (upd (upd (upd (upd (fun _ => 0) 0 (-1 : Int32)) 1 (-1 : Int32)) 2 (-1 : Int32)) 3 (-1 : Int32)) 4 (-1 : Int32)) 5 (-1 : Int32))), .inl (0, 240, .inl (fun _ => 0)), .inl (0, 4, .inl (upd (upd (upd (upd (fun _ => 0) 0 (-1 : Int32)) 1 (-1 : Int32)) 2 (-1 : Int32)) 3 (-1 : Int32))), .inl (0, 240, .inl (fun _ => 0)), .inl (0, 6, .inl (fun _ => 0)), .inl (0, 12, .inl (fun _ => 0)), .inl (0, 6, .inl (fun _ => 0)), .inl (0, 64, .inl (fun _ => 0)), .inl (0, 64, .inl (fun _ => 0)), .inl (1, 64, .inr (.inl (fun _ => 0)))]
  refine vr_ic CA.1 nd_Md_init_163 ?_
  refine vr_iadd CA.1 nd_Md_init_164 rfl ?_
  show nj_V G ad12 12 3016 165 [some (.ref 0), some (.int (1 : Int32))] [.int (576 : Int32), .ref 1] [.inr (6, [.ref 1, .int 0, .ref 2, .ref 3, .ref 4, .ref 5, .ref 6, .int 0, .long 0, .long (1 : Int64), .int 0, .ref 7, .int 0, .int 0, .int 0, .int 0, .ref 8, .int 0, .ref 9, .int 0, .ref 10, .ref 11, .ref 12]), .inl (0, 2304, .inl (fun _ => 0)), .inl (0, 6, .inl (fun _ => 0)), .inl (0, 6, .inl (upd (upd (upd (upd (upd (upd (fun _ => 0) 0 (-1 : Int32)) 1 (-1 : Int32)) 2 (-1 : Int32)) 3 (-1 : Int32)) 4 (-1 : Int32)) 5 (-1 : Int32))), .inl (0, 240, .inl (fun _ => 0)), .inl (0, 4, .inl (upd (upd (upd (upd (fun _ => 0) 0 (-1 : Int32)) 1 (-1 : Int32)) 2 (-1 : Int32)) 3 (-1 : Int32))), .inl (0, 240, .inl (fun _ => 0)), .inl (0, 6, .inl (fun _ => 0)), .inl (0, 12, .inl (fun _ => 0)), .inl (0, 6, .inl (fun _ => 0)), .inl (0, 64, .inl (fun _ => 0)), .inl (0, 64, .inl (fun _ => 0)), .inl (1, 64, .inr (.inl (fun _ => 0)))]
  refine vr_ic CA.1 nd_Md_init_165 ?_
  refine vr_iask (j := 576) (hp' := [.inr (6, [.ref 1, .int 0, .ref 2, .ref 3, .ref 4, .ref 5, .ref 6, .int 0, .long 0, .long (1 : Int64), .int 0, .ref 7, .int 0, .int 0, .int 0, .int 0, .ref 8, .int 0, .ref 9, .int 0, .ref 10, .ref 11, .ref 12]), .inl (0, 2304, .inl (upd (fun _ => 0) 576 (-1 : Int32))), .inl (0, 6, .inl (fun _ => 0)), .inl (0, 6, .inl (upd (upd (upd (upd (upd (upd (fun _ => 0) 0 (-1 : Int32)) 1 (-1 : Int32)) 2 (-1 : Int32)) 3 (-1 : Int32)) 4 (-1 : Int32)) 5 (-1 : Int32))), .inl (0, 240, .inl (fun _ => 0)), .inl (0, 4, .inl (upd (upd (upd (upd (fun _ => 0) 0 (-1 : Int32)) 1 (-1 : Int32)) 2 (-1 : Int32)) 3 (-1 : Int32))), .inl (0, 240, .inl (fun _ => 0)), .inl (0, 6, .inl (fun _ => 0)), .inl (0, 12, .inl (fun _ => 0)), .inl (0, 6, .inl (fun _ => 0)), .inl (0, 64, .inl (fun _ => 0)), .inl (0, 64, .inl (fun _ => 0)), .inl (1, 64, .inr (.inl (fun _ => 0)))]) CA.1 nd_Md_init_166 rfl rfl (nj_inc rfl) (by decide) rfl ?_
  refine vr_inc (v := (2 : Int32)) (ls' := [some (.ref 0), some (.int (2 : Int32))]) CA.1 nd_Md_init_167 rfl rfl rfl (by decide) rfl ?_
  refine vr_go CA.1 nd_Md_init_170 ?_
  refine vr_il CA.1 nd_Md_init_149 rfl ?_
  refine vr_ic CA.1 nd_Md_init_150 ?_
  refine vr_cm_ge CA.1 nd_Md_init_151 (fun hc => absurd hc (by decide)) (fun _ => ?_)
  refine vr_al CA.1 nd_Md_init_154 rfl ?_
  refine vr_get (v := .ref 1) CA.1 nd_Md_init_155 rfl fl_Md_7 (q := 0) rfl rfl ?_
  refine vr_ic CA.1 nd_Md_init_158 ?_
  refine vr_il CA.1 nd_Md_init_161 rfl ?_
  refine vr_imul CA.1 nd_Md_init_162 rfl ?_
  show nj_V G ad12 12 3016 163 [some (.ref 0), some (.int (2 : Int32))] [.int (1152 : Int32), .ref 1] [.inr (6, [.ref 1, .int 0, .ref 2, .ref 3, .ref 4, .ref 5, .ref 6, .int 0, .long 0, .long (1 : Int64), .int 0, .ref 7, .int 0, .int 0, .int 0, .int 0, .ref 8, .int 0, .ref 9, .int 0, .ref 10, .ref 11, .ref 12]), .inl (0, 2304, .inl (upd (fun _ => 0) 576 (-1 : Int32))), .inl (0, 6, .inl (fun _ => 0)), .inl (0, 6, .inl (upd (upd (upd (upd (upd (upd (fun _ => 0) 0 (-1 : Int32)) 1 (-1 : Int32)) 2 (-1 : Int32)) 3 (-1 : Int32)) 4 (-1 : Int32)) 5 (-1 : Int32))), .inl (0, 240, .inl (fun _ => 0)), .inl (0, 4, .inl (upd (upd (upd (upd (fun _ => 0) 0 (-1 : Int32)) 1 (-1 : Int32)) 2 (-1 : Int32)) 3 (-1 : Int32))), .inl (0, 240, .inl (fun _ => 0)), .inl (0, 6, .inl (fun _ => 0)), .inl (0, 12, .inl (fun _ => 0)), .inl (0, 6, .inl (fun _ => 0)), .inl (0, 64, .inl (fun _ => 0)), .inl (0, 64, .inl (fun _ => 0)), .inl (1, 64, .inr (.inl (fun _ => 0)))]
  refine vr_ic CA.1 nd_Md_init_163 ?_
  refine vr_iadd CA.1 nd_Md_init_164 rfl ?_
  show nj_V G ad12 12 3016 165 [some (.ref 0), some (.int (2 : Int32))] [.int (1152 : Int32), .ref 1] [.inr (6, [.ref 1, .int 0, .ref 2, .ref 3, .ref 4, .ref 5, .ref 6, .int 0, .long 0, .long (1 : Int64), .int 0, .ref 7, .int 0, .int 0, .int 0, .int 0, .ref 8, .int 0, .ref 9, .int 0, .ref 10, .ref 11, .ref 12]), .inl (0, 2304, .inl (upd (fun _ => 0) 576 (-1 : Int32))), .inl (0, 6, .inl (fun _ => 0)), .inl (0, 6, .inl (upd (upd (upd (upd (upd (upd (fun _ => 0) 0 (-1 : Int32)) 1 (-1 : Int32)) 2 (-1 : Int32)) 3 (-1 : Int32)) 4 (-1 : Int32)) 5 (-1 : Int32))), .inl (0, 240, .inl (fun _ => 0)), .inl (0, 4, .inl (upd (upd (upd (upd (fun _ => 0) 0 (-1 : Int32)) 1 (-1 : Int32)) 2 (-1 : Int32)) 3 (-1 : Int32))), .inl (0, 240, .inl (fun _ => 0)), .inl (0, 6, .inl (fun _ => 0)), .inl (0, 12, .inl (fun _ => 0)), .inl (0, 6, .inl (fun _ => 0)), .inl (0, 64, .inl (fun _ => 0)), .inl (0, 64, .inl (fun _ => 0)), .inl (1, 64, .inr (.inl (fun _ => 0)))]
  refine vr_ic CA.1 nd_Md_init_165 ?_
  refine vr_iask (j := 1152) (hp' := [.inr (6, [.ref 1, .int 0, .ref 2, .ref 3, .ref 4, .ref 5, .ref 6, .int 0, .long 0, .long (1 : Int64), .int 0, .ref 7, .int 0, .int 0, .int 0, .int 0, .ref 8, .int 0, .ref 9, .int 0, .ref 10, .ref 11, .ref 12]), .inl (0, 2304, .inl (upd (upd (fun _ => 0) 576 (-1 : Int32)) 1152 (-1 : Int32))), .inl (0, 6, .inl (fun _ => 0)), .inl (0, 6, .inl (upd (upd (upd (upd (upd (upd (fun _ => 0) 0 (-1 : Int32)) 1 (-1 : Int32)) 2 (-1 : Int32)) 3 (-1 : Int32)) 4 (-1 : Int32)) 5 (-1 : Int32))), .inl (0, 240, .inl (fun _ => 0)), .inl (0, 4, .inl (upd (upd (upd (upd (fun _ => 0) 0 (-1 : Int32)) 1 (-1 : Int32)) 2 (-1 : Int32)) 3 (-1 : Int32))), .inl (0, 240, .inl (fun _ => 0)), .inl (0, 6, .inl (fun _ => 0)), .inl (0, 12, .inl (fun _ => 0)), .inl (0, 6, .inl (fun _ => 0)), .inl (0, 64, .inl (fun _ => 0)), .inl (0, 64, .inl (fun _ => 0)), .inl (1, 64, .inr (.inl (fun _ => 0)))]) CA.1 nd_Md_init_166 rfl rfl (nj_inc rfl) (by decide) rfl ?_
  refine vr_inc (v := (3 : Int32)) (ls' := [some (.ref 0), some (.int (3 : Int32))]) CA.1 nd_Md_init_167 rfl rfl rfl (by decide) rfl ?_
  refine vr_go CA.1 nd_Md_init_170 ?_
  refine vr_il CA.1 nd_Md_init_149 rfl ?_
  refine vr_ic CA.1 nd_Md_init_150 ?_
  refine vr_cm_ge CA.1 nd_Md_init_151 (fun hc => absurd hc (by decide)) (fun _ => ?_)
  refine vr_al CA.1 nd_Md_init_154 rfl ?_
  refine vr_get (v := .ref 1) CA.1 nd_Md_init_155 rfl fl_Md_7 (q := 0) rfl rfl ?_
  refine vr_ic CA.1 nd_Md_init_158 ?_
  refine vr_il CA.1 nd_Md_init_161 rfl ?_
  refine vr_imul CA.1 nd_Md_init_162 rfl ?_
  show nj_V G ad12 12 3016 163 [some (.ref 0), some (.int (3 : Int32))] [.int (1728 : Int32), .ref 1] [.inr (6, [.ref 1, .int 0, .ref 2, .ref 3, .ref 4, .ref 5, .ref 6, .int 0, .long 0, .long (1 : Int64), .int 0, .ref 7, .int 0, .int 0, .int 0, .int 0, .ref 8, .int 0, .ref 9, .int 0, .ref 10, .ref 11, .ref 12]), .inl (0, 2304, .inl (upd (upd (fun _ => 0) 576 (-1 : Int32)) 1152 (-1 : Int32))), .inl (0, 6, .inl (fun _ => 0)), .inl (0, 6, .inl (upd (upd (upd (upd (upd (upd (fun _ => 0) 0 (-1 : Int32)) 1 (-1 : Int32)) 2 (-1 : Int32)) 3 (-1 : Int32)) 4 (-1 : Int32)) 5 (-1 : Int32))), .inl (0, 240, .inl (fun _ => 0)), .inl (0, 4, .inl (upd (upd (upd (upd (fun _ => 0) 0 (-1 : Int32)) 1 (-1 : Int32)) 2 (-1 : Int32)) 3 (-1 : Int32))), .inl (0, 240, .inl (fun _ => 0)), .inl (0, 6, .inl (fun _ => 0)), .inl (0, 12, .inl (fun _ => 0)), .inl (0, 6, .inl (fun _ => 0)), .inl (0, 64, .inl (fun _ => 0)), .inl (0, 64, .inl (fun _ => 0)), .inl (1, 64, .inr (.inl (fun _ => 0)))]
  refine vr_ic CA.1 nd_Md_init_163 ?_
  refine vr_iadd CA.1 nd_Md_init_164 rfl ?_
  show nj_V G ad12 12 3016 165 [some (.ref 0), some (.int (3 : Int32))] [.int (1728 : Int32), .ref 1] [.inr (6, [.ref 1, .int 0, .ref 2, .ref 3, .ref 4, .ref 5, .ref 6, .int 0, .long 0, .long (1 : Int64), .int 0, .ref 7, .int 0, .int 0, .int 0, .int 0, .ref 8, .int 0, .ref 9, .int 0, .ref 10, .ref 11, .ref 12]), .inl (0, 2304, .inl (upd (upd (fun _ => 0) 576 (-1 : Int32)) 1152 (-1 : Int32))), .inl (0, 6, .inl (fun _ => 0)), .inl (0, 6, .inl (upd (upd (upd (upd (upd (upd (fun _ => 0) 0 (-1 : Int32)) 1 (-1 : Int32)) 2 (-1 : Int32)) 3 (-1 : Int32)) 4 (-1 : Int32)) 5 (-1 : Int32))), .inl (0, 240, .inl (fun _ => 0)), .inl (0, 4, .inl (upd (upd (upd (upd (fun _ => 0) 0 (-1 : Int32)) 1 (-1 : Int32)) 2 (-1 : Int32)) 3 (-1 : Int32))), .inl (0, 240, .inl (fun _ => 0)), .inl (0, 6, .inl (fun _ => 0)), .inl (0, 12, .inl (fun _ => 0)), .inl (0, 6, .inl (fun _ => 0)), .inl (0, 64, .inl (fun _ => 0)), .inl (0, 64, .inl (fun _ => 0)), .inl (1, 64, .inr (.inl (fun _ => 0)))]
  refine vr_ic CA.1 nd_Md_init_165 ?_
  refine vr_iask (j := 1728) (hp' := [.inr (6, [.ref 1, .int 0, .ref 2, .ref 3, .ref 4, .ref 5, .ref 6, .int 0, .long 0, .long (1 : Int64), .int 0, .ref 7, .int 0, .int 0, .int 0, .int 0, .ref 8, .int 0, .ref 9, .int 0, .ref 10, .ref 11, .ref 12]), .inl (0, 2304, .inl (upd (upd (upd (fun _ => 0) 576 (-1 : Int32)) 1152 (-1 : Int32)) 1728 (-1 : Int32))), .inl (0, 6, .inl (fun _ => 0)), .inl (0, 6, .inl (upd (upd (upd (upd (upd (upd (fun _ => 0) 0 (-1 : Int32)) 1 (-1 : Int32)) 2 (-1 : Int32)) 3 (-1 : Int32)) 4 (-1 : Int32)) 5 (-1 : Int32))), .inl (0, 240, .inl (fun _ => 0)), .inl (0, 4, .inl (upd (upd (upd (upd (fun _ => 0) 0 (-1 : Int32)) 1 (-1 : Int32)) 2 (-1 : Int32)) 3 (-1 : Int32))), .inl (0, 240, .inl (fun _ => 0)), .inl (0, 6, .inl (fun _ => 0)), .inl (0, 12, .inl (fun _ => 0)), .inl (0, 6, .inl (fun _ => 0)), .inl (0, 64, .inl (fun _ => 0)), .inl (0, 64, .inl (fun _ => 0)), .inl (1, 64, .inr (.inl (fun _ => 0)))]) CA.1 nd_Md_init_166 rfl rfl (nj_inc rfl) (by decide) rfl ?_
  refine vr_inc (v := (4 : Int32)) (ls' := [some (.ref 0), some (.int (4 : Int32))]) CA.1 nd_Md_init_167 rfl rfl rfl (by decide) rfl ?_
  refine vr_go CA.1 nd_Md_init_170 ?_
  refine vr_il CA.1 nd_Md_init_149 rfl ?_
  refine vr_ic CA.1 nd_Md_init_150 ?_
  refine vr_cm_ge CA.1 nd_Md_init_151 (fun _ => ?_) (fun hc => absurd hc (by decide))
  exact vr_vretA CA.1 hq (nj_agt (nj_agt (nj_agt (nj_agt (nj_agt (nj_agt (nj_agt (nj_agt (nj_agt (nj_agt (nj_agt (nj_agt (nj_agr 1 ad) hg1 rfl) hg2 rfl) hg3 rfl) hg4 rfl) hg5 rfl) hg6 rfl) hg7 rfl) hg8 rfl) hg9 rfl) hg10 rfl) hg11 rfl) hg12 rfl) nd_Md_init_173 rfl
end

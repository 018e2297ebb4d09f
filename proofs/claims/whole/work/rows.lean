section
/-- a private method of a class that the tables say can be made, by its rows of tables_1 -/
def lw_okq (q : MethodName × Nat) : Prop := (q.1.cls ≠ "java/lang/invoke/MethodHandle" ∧ q.1.cls ≠ "java/lang/invoke/VarHandle") ∧ Cond.instantiable q.1.cls q.2 ∈ tables_1 ∧ Cond.privateMethod q.1 ∈ tables_1 ∧ Cond.instanceMethod q.1 ∈ tables_1
theorem lw_p0 : lw_okq (⟨"LeaningTrees$Forest", "growAll", "(III)I"⟩, 2) := ⟨⟨by decide +kernel, by decide +kernel⟩, List.mem_of_getElem? (i := 22) (by decide +kernel), List.mem_of_getElem? (i := 30) (by decide +kernel), List.mem_of_getElem? (i := 31) (by decide +kernel)⟩
theorem lw_p1 : lw_okq (⟨"LeaningTrees", "size", "()I"⟩, 10) := ⟨⟨by decide +kernel, by decide +kernel⟩, List.mem_of_getElem? (i := 14) (by decide +kernel), List.mem_of_getElem? (i := 199) (by decide +kernel), List.mem_of_getElem? (i := 200) (by decide +kernel)⟩
theorem lw_p2 : lw_okq (⟨"LeaningTrees", "becomeAndTell", "(I)I"⟩, 10) := ⟨⟨by decide +kernel, by decide +kernel⟩, List.mem_of_getElem? (i := 14) (by decide +kernel), List.mem_of_getElem? (i := 232) (by decide +kernel), List.mem_of_getElem? (i := 233) (by decide +kernel)⟩
theorem lw_p3 : lw_okq (⟨"LeaningTrees", "become", "(I)V"⟩, 10) := ⟨⟨by decide +kernel, by decide +kernel⟩, List.mem_of_getElem? (i := 14) (by decide +kernel), List.mem_of_getElem? (i := 236) (by decide +kernel), List.mem_of_getElem? (i := 237) (by decide +kernel)⟩
theorem lw_p4 : lw_okq (⟨"LeaningTrees", "isNode", "(I)Z"⟩, 10) := ⟨⟨by decide +kernel, by decide +kernel⟩, List.mem_of_getElem? (i := 14) (by decide +kernel), List.mem_of_getElem? (i := 256) (by decide +kernel), List.mem_of_getElem? (i := 257) (by decide +kernel)⟩
theorem lw_p5 : lw_okq (⟨"LeaningTrees$Forest", "top", "(III)I"⟩, 2) := ⟨⟨by decide +kernel, by decide +kernel⟩, List.mem_of_getElem? (i := 22) (by decide +kernel), List.mem_of_getElem? (i := 281) (by decide +kernel), List.mem_of_getElem? (i := 282) (by decide +kernel)⟩
theorem lw_p6 : lw_okq (⟨"LeaningTrees", "refusalOfTwo", "(II)I"⟩, 10) := ⟨⟨by decide +kernel, by decide +kernel⟩, List.mem_of_getElem? (i := 14) (by decide +kernel), List.mem_of_getElem? (i := 383) (by decide +kernel), List.mem_of_getElem? (i := 384) (by decide +kernel)⟩
theorem lw_p7 : lw_okq (⟨"LeaningTrees", "refusal", "(I)I"⟩, 10) := ⟨⟨by decide +kernel, by decide +kernel⟩, List.mem_of_getElem? (i := 14) (by decide +kernel), List.mem_of_getElem? (i := 387) (by decide +kernel), List.mem_of_getElem? (i := 388) (by decide +kernel)⟩
theorem lw_p8 : lw_okq (⟨"LeaningTrees", "lack", "(I)I"⟩, 10) := ⟨⟨by decide +kernel, by decide +kernel⟩, List.mem_of_getElem? (i := 14) (by decide +kernel), List.mem_of_getElem? (i := 391) (by decide +kernel), List.mem_of_getElem? (i := 392) (by decide +kernel)⟩
theorem lw_p9 : lw_okq (⟨"LeaningTrees$Order", "joinOf", "(II)I"⟩, 3) := ⟨⟨by decide +kernel, by decide +kernel⟩, List.mem_of_getElem? (i := 42) (by decide +kernel), List.mem_of_getElem? (i := 415) (by decide +kernel), List.mem_of_getElem? (i := 416) (by decide +kernel)⟩
theorem lw_p10 : lw_okq (⟨"LeaningTrees$Order", "meetOf", "(II)I"⟩, 3) := ⟨⟨by decide +kernel, by decide +kernel⟩, List.mem_of_getElem? (i := 42) (by decide +kernel), List.mem_of_getElem? (i := 429) (by decide +kernel), List.mem_of_getElem? (i := 430) (by decide +kernel)⟩
theorem lw_p11 : lw_okq (⟨"LeaningTrees$Ways", "learn", "(I)V"⟩, 9) := ⟨⟨by decide +kernel, by decide +kernel⟩, List.mem_of_getElem? (i := 58) (by decide +kernel), List.mem_of_getElem? (i := 468) (by decide +kernel), List.mem_of_getElem? (i := 469) (by decide +kernel)⟩
theorem lw_p12 : lw_okq (⟨"LeaningTrees$Ways", "reach", "(II)V"⟩, 9) := ⟨⟨by decide +kernel, by decide +kernel⟩, List.mem_of_getElem? (i := 58) (by decide +kernel), List.mem_of_getElem? (i := 480) (by decide +kernel), List.mem_of_getElem? (i := 481) (by decide +kernel)⟩
theorem lw_p13 : lw_okq (⟨"LeaningTrees$Ways", "improve", "(IIZ)V"⟩, 9) := ⟨⟨by decide +kernel, by decide +kernel⟩, List.mem_of_getElem? (i := 58) (by decide +kernel), List.mem_of_getElem? (i := 501) (by decide +kernel), List.mem_of_getElem? (i := 502) (by decide +kernel)⟩
theorem lw_p14 : lw_okq (⟨"LeaningTrees$Order", "sumBelow", "(II)I"⟩, 3) := ⟨⟨by decide +kernel, by decide +kernel⟩, List.mem_of_getElem? (i := 42) (by decide +kernel), List.mem_of_getElem? (i := 513) (by decide +kernel), List.mem_of_getElem? (i := 514) (by decide +kernel)⟩
theorem lw_p15 : lw_okq (⟨"LeaningTrees", "lackOrTooMany", "(I)I"⟩, 10) := ⟨⟨by decide +kernel, by decide +kernel⟩, List.mem_of_getElem? (i := 14) (by decide +kernel), List.mem_of_getElem? (i := 586) (by decide +kernel), List.mem_of_getElem? (i := 587) (by decide +kernel)⟩
def lw_privs_1 : List (MethodName × Nat) := [(⟨"LeaningTrees$Forest", "growAll", "(III)I"⟩, 2), (⟨"LeaningTrees", "size", "()I"⟩, 10), (⟨"LeaningTrees", "becomeAndTell", "(I)I"⟩, 10), (⟨"LeaningTrees", "become", "(I)V"⟩, 10), (⟨"LeaningTrees", "isNode", "(I)Z"⟩, 10), (⟨"LeaningTrees$Forest", "top", "(III)I"⟩, 2), (⟨"LeaningTrees", "refusalOfTwo", "(II)I"⟩, 10), (⟨"LeaningTrees", "refusal", "(I)I"⟩, 10), (⟨"LeaningTrees", "lack", "(I)I"⟩, 10), (⟨"LeaningTrees$Order", "joinOf", "(II)I"⟩, 3), (⟨"LeaningTrees$Order", "meetOf", "(II)I"⟩, 3), (⟨"LeaningTrees$Ways", "learn", "(I)V"⟩, 9), (⟨"LeaningTrees$Ways", "reach", "(II)V"⟩, 9), (⟨"LeaningTrees$Ways", "improve", "(IIZ)V"⟩, 9), (⟨"LeaningTrees$Order", "sumBelow", "(II)I"⟩, 3), (⟨"LeaningTrees", "lackOrTooMany", "(I)I"⟩, 10)]
theorem lw_r1 : ∀ q ∈ lw_privs_1, lw_okq q := List.forall_mem_cons.mpr ⟨lw_p0, List.forall_mem_cons.mpr ⟨lw_p1, List.forall_mem_cons.mpr ⟨lw_p2, List.forall_mem_cons.mpr ⟨lw_p3, List.forall_mem_cons.mpr ⟨lw_p4, List.forall_mem_cons.mpr ⟨lw_p5, List.forall_mem_cons.mpr ⟨lw_p6, List.forall_mem_cons.mpr ⟨lw_p7, List.forall_mem_cons.mpr ⟨lw_p8, List.forall_mem_cons.mpr ⟨lw_p9, List.forall_mem_cons.mpr ⟨lw_p10, List.forall_mem_cons.mpr ⟨lw_p11, List.forall_mem_cons.mpr ⟨lw_p12, List.forall_mem_cons.mpr ⟨lw_p13, List.forall_mem_cons.mpr ⟨lw_p14, List.forall_mem_cons.mpr ⟨lw_p15, fun _ h => absurd h List.not_mem_nil⟩⟩⟩⟩⟩⟩⟩⟩⟩⟩⟩⟩⟩⟩⟩⟩
theorem lw_p16 : lw_okq (⟨"LeaningTrees$Forest", "sideBySide", "(III)I"⟩, 2) := ⟨⟨by decide +kernel, by decide +kernel⟩, List.mem_of_getElem? (i := 22) (by decide +kernel), List.mem_of_getElem? (i := 594) (by decide +kernel), List.mem_of_getElem? (i := 595) (by decide +kernel)⟩
theorem lw_p17 : lw_okq (⟨"LeaningTrees$Tape", "accepts", "(I)Z"⟩, 8) := ⟨⟨by decide +kernel, by decide +kernel⟩, List.mem_of_getElem? (i := 125) (by decide +kernel), List.mem_of_getElem? (i := 700) (by decide +kernel), List.mem_of_getElem? (i := 701) (by decide +kernel)⟩
theorem lw_p18 : lw_okq (⟨"LeaningTrees$Tape", "opensNode", "()Z"⟩, 8) := ⟨⟨by decide +kernel, by decide +kernel⟩, List.mem_of_getElem? (i := 125) (by decide +kernel), List.mem_of_getElem? (i := 704) (by decide +kernel), List.mem_of_getElem? (i := 705) (by decide +kernel)⟩
theorem lw_p19 : lw_okq (⟨"LeaningTrees$Tape", "awaitedNow", "()I"⟩, 8) := ⟨⟨by decide +kernel, by decide +kernel⟩, List.mem_of_getElem? (i := 125) (by decide +kernel), List.mem_of_getElem? (i := 708) (by decide +kernel), List.mem_of_getElem? (i := 709) (by decide +kernel)⟩
theorem lw_p20 : lw_okq (⟨"LeaningTrees$Tape", "staysNothing", "()Z"⟩, 8) := ⟨⟨by decide +kernel, by decide +kernel⟩, List.mem_of_getElem? (i := 125) (by decide +kernel), List.mem_of_getElem? (i := 712) (by decide +kernel), List.mem_of_getElem? (i := 713) (by decide +kernel)⟩
theorem lw_p21 : lw_okq (⟨"LeaningTrees$Tape", "endSubtree", "()V"⟩, 8) := ⟨⟨by decide +kernel, by decide +kernel⟩, List.mem_of_getElem? (i := 125) (by decide +kernel), List.mem_of_getElem? (i := 716) (by decide +kernel), List.mem_of_getElem? (i := 717) (by decide +kernel)⟩
theorem lw_p22 : lw_okq (⟨"LeaningTrees$Tape", "closesNode", "()Z"⟩, 8) := ⟨⟨by decide +kernel, by decide +kernel⟩, List.mem_of_getElem? (i := 125) (by decide +kernel), List.mem_of_getElem? (i := 720) (by decide +kernel), List.mem_of_getElem? (i := 721) (by decide +kernel)⟩
theorem lw_p23 : lw_okq (⟨"LeaningTrees$Tape", "isWhole", "()Z"⟩, 8) := ⟨⟨by decide +kernel, by decide +kernel⟩, List.mem_of_getElem? (i := 125) (by decide +kernel), List.mem_of_getElem? (i := 724) (by decide +kernel), List.mem_of_getElem? (i := 725) (by decide +kernel)⟩
theorem lw_p24 : lw_okq (⟨"LeaningTrees$Forest", "opening", "(II)I"⟩, 2) := ⟨⟨by decide +kernel, by decide +kernel⟩, List.mem_of_getElem? (i := 22) (by decide +kernel), List.mem_of_getElem? (i := 750) (by decide +kernel), List.mem_of_getElem? (i := 751) (by decide +kernel)⟩
theorem lw_p25 : lw_okq (⟨"LeaningTrees$Forest", "closing", "(II)I"⟩, 2) := ⟨⟨by decide +kernel, by decide +kernel⟩, List.mem_of_getElem? (i := 22) (by decide +kernel), List.mem_of_getElem? (i := 754) (by decide +kernel), List.mem_of_getElem? (i := 755) (by decide +kernel)⟩
theorem lw_p26 : lw_okq (⟨"LeaningTrees", "shelvesInUse", "()I"⟩, 10) := ⟨⟨by decide +kernel, by decide +kernel⟩, List.mem_of_getElem? (i := 14) (by decide +kernel), List.mem_of_getElem? (i := 771) (by decide +kernel), List.mem_of_getElem? (i := 772) (by decide +kernel)⟩
theorem lw_p27 : lw_okq (⟨"LeaningTreesModel", "becomes", "(II)V"⟩, 35) := ⟨⟨by decide +kernel, by decide +kernel⟩, List.mem_of_getElem? (i := 779) (by decide +kernel), List.mem_of_getElem? (i := 912) (by decide +kernel), List.mem_of_getElem? (i := 913) (by decide +kernel)⟩
theorem lw_p28 : lw_okq (⟨"LeaningTreesModel", "numberOf", "(II)I"⟩, 35) := ⟨⟨by decide +kernel, by decide +kernel⟩, List.mem_of_getElem? (i := 779) (by decide +kernel), List.mem_of_getElem? (i := 920) (by decide +kernel), List.mem_of_getElem? (i := 921) (by decide +kernel)⟩
theorem lw_p29 : lw_okq (⟨"LeaningTreesModel", "table", "(I)V"⟩, 35) := ⟨⟨by decide +kernel, by decide +kernel⟩, List.mem_of_getElem? (i := 779) (by decide +kernel), List.mem_of_getElem? (i := 924) (by decide +kernel), List.mem_of_getElem? (i := 925) (by decide +kernel)⟩
theorem lw_p30 : lw_okq (⟨"LeaningTreesModel", "isNode", "(I)Z"⟩, 35) := ⟨⟨by decide +kernel, by decide +kernel⟩, List.mem_of_getElem? (i := 779) (by decide +kernel), List.mem_of_getElem? (i := 932) (by decide +kernel), List.mem_of_getElem? (i := 933) (by decide +kernel)⟩
theorem lw_p31 : lw_okq (⟨"LeaningTreesModel", "looks", "(II)V"⟩, 35) := ⟨⟨by decide +kernel, by decide +kernel⟩, List.mem_of_getElem? (i := 779) (by decide +kernel), List.mem_of_getElem? (i := 937) (by decide +kernel), List.mem_of_getElem? (i := 938) (by decide +kernel)⟩
def lw_privs_2 : List (MethodName × Nat) := [(⟨"LeaningTrees$Forest", "sideBySide", "(III)I"⟩, 2), (⟨"LeaningTrees$Tape", "accepts", "(I)Z"⟩, 8), (⟨"LeaningTrees$Tape", "opensNode", "()Z"⟩, 8), (⟨"LeaningTrees$Tape", "awaitedNow", "()I"⟩, 8), (⟨"LeaningTrees$Tape", "staysNothing", "()Z"⟩, 8), (⟨"LeaningTrees$Tape", "endSubtree", "()V"⟩, 8), (⟨"LeaningTrees$Tape", "closesNode", "()Z"⟩, 8), (⟨"LeaningTrees$Tape", "isWhole", "()Z"⟩, 8), (⟨"LeaningTrees$Forest", "opening", "(II)I"⟩, 2), (⟨"LeaningTrees$Forest", "closing", "(II)I"⟩, 2), (⟨"LeaningTrees", "shelvesInUse", "()I"⟩, 10), (⟨"LeaningTreesModel", "becomes", "(II)V"⟩, 35), (⟨"LeaningTreesModel", "numberOf", "(II)I"⟩, 35), (⟨"LeaningTreesModel", "table", "(I)V"⟩, 35), (⟨"LeaningTreesModel", "isNode", "(I)Z"⟩, 35), (⟨"LeaningTreesModel", "looks", "(II)V"⟩, 35)]
theorem lw_r2 : ∀ q ∈ lw_privs_2, lw_okq q := List.forall_mem_cons.mpr ⟨lw_p16, List.forall_mem_cons.mpr ⟨lw_p17, List.forall_mem_cons.mpr ⟨lw_p18, List.forall_mem_cons.mpr ⟨lw_p19, List.forall_mem_cons.mpr ⟨lw_p20, List.forall_mem_cons.mpr ⟨lw_p21, List.forall_mem_cons.mpr ⟨lw_p22, List.forall_mem_cons.mpr ⟨lw_p23, List.forall_mem_cons.mpr ⟨lw_p24, List.forall_mem_cons.mpr ⟨lw_p25, List.forall_mem_cons.mpr ⟨lw_p26, List.forall_mem_cons.mpr ⟨lw_p27, List.forall_mem_cons.mpr ⟨lw_p28, List.forall_mem_cons.mpr ⟨lw_p29, List.forall_mem_cons.mpr ⟨lw_p30, List.forall_mem_cons.mpr ⟨lw_p31, fun _ h => absurd h List.not_mem_nil⟩⟩⟩⟩⟩⟩⟩⟩⟩⟩⟩⟩⟩⟩⟩⟩
theorem lw_p32 : lw_okq (⟨"LeaningTreesModel", "reads", "(IIIIII)I"⟩, 35) := ⟨⟨by decide +kernel, by decide +kernel⟩, List.mem_of_getElem? (i := 779) (by decide +kernel), List.mem_of_getElem? (i := 941) (by decide +kernel), List.mem_of_getElem? (i := 942) (by decide +kernel)⟩
theorem lw_p33 : lw_okq (⟨"LeaningTreesModel", "up", "(III)I"⟩, 35) := ⟨⟨by decide +kernel, by decide +kernel⟩, List.mem_of_getElem? (i := 779) (by decide +kernel), List.mem_of_getElem? (i := 962) (by decide +kernel), List.mem_of_getElem? (i := 963) (by decide +kernel)⟩
theorem lw_p34 : lw_okq (⟨"LeaningTreesModel", "down", "(III)I"⟩, 35) := ⟨⟨by decide +kernel, by decide +kernel⟩, List.mem_of_getElem? (i := 779) (by decide +kernel), List.mem_of_getElem? (i := 973) (by decide +kernel), List.mem_of_getElem? (i := 974) (by decide +kernel)⟩
theorem lw_p35 : lw_okq (⟨"LeaningTreesModel", "mirrored", "(II)I"⟩, 35) := ⟨⟨by decide +kernel, by decide +kernel⟩, List.mem_of_getElem? (i := 779) (by decide +kernel), List.mem_of_getElem? (i := 987) (by decide +kernel), List.mem_of_getElem? (i := 988) (by decide +kernel)⟩
theorem lw_p36 : lw_okq (⟨"LeaningTreesModel", "barOf", "(I)I"⟩, 35) := ⟨⟨by decide +kernel, by decide +kernel⟩, List.mem_of_getElem? (i := 779) (by decide +kernel), List.mem_of_getElem? (i := 1002) (by decide +kernel), List.mem_of_getElem? (i := 1003) (by decide +kernel)⟩
theorem lw_p37 : lw_okq (⟨"LeaningTreesModel", "bound", "(IIZ)I"⟩, 35) := ⟨⟨by decide +kernel, by decide +kernel⟩, List.mem_of_getElem? (i := 779) (by decide +kernel), List.mem_of_getElem? (i := 1013) (by decide +kernel), List.mem_of_getElem? (i := 1014) (by decide +kernel)⟩
theorem lw_p38 : lw_okq (⟨"LeaningTreesModel", "isBetween", "(III)Z"⟩, 35) := ⟨⟨by decide +kernel, by decide +kernel⟩, List.mem_of_getElem? (i := 779) (by decide +kernel), List.mem_of_getElem? (i := 1025) (by decide +kernel), List.mem_of_getElem? (i := 1026) (by decide +kernel)⟩
theorem lw_p39 : lw_okq (⟨"LeaningTreesModel", "measure", "(IZ)V"⟩, 35) := ⟨⟨by decide +kernel, by decide +kernel⟩, List.mem_of_getElem? (i := 779) (by decide +kernel), List.mem_of_getElem? (i := 1033) (by decide +kernel), List.mem_of_getElem? (i := 1034) (by decide +kernel)⟩
theorem lw_p40 : lw_okq (⟨"LeaningTreesModel", "firstTurn", "(I)I"⟩, 35) := ⟨⟨by decide +kernel, by decide +kernel⟩, List.mem_of_getElem? (i := 779) (by decide +kernel), List.mem_of_getElem? (i := 1037) (by decide +kernel), List.mem_of_getElem? (i := 1038) (by decide +kernel)⟩
theorem lw_p41 : lw_okq (⟨"LeaningTreesModel", "longest", "(I)I"⟩, 35) := ⟨⟨by decide +kernel, by decide +kernel⟩, List.mem_of_getElem? (i := 779) (by decide +kernel), List.mem_of_getElem? (i := 1045) (by decide +kernel), List.mem_of_getElem? (i := 1046) (by decide +kernel)⟩
theorem lw_p42 : lw_okq (⟨"LeaningTreesModel", "makes", "(II)V"⟩, 35) := ⟨⟨by decide +kernel, by decide +kernel⟩, List.mem_of_getElem? (i := 779) (by decide +kernel), List.mem_of_getElem? (i := 1111) (by decide +kernel), List.mem_of_getElem? (i := 1112) (by decide +kernel)⟩
theorem lw_p43 : lw_okq (⟨"LeaningTreesModel", "sees", "(Z)Z"⟩, 35) := ⟨⟨by decide +kernel, by decide +kernel⟩, List.mem_of_getElem? (i := 779) (by decide +kernel), List.mem_of_getElem? (i := 1147) (by decide +kernel), List.mem_of_getElem? (i := 1148) (by decide +kernel)⟩
theorem lw_p44 : lw_okq (⟨"LeaningTreesModel", "sign", "()I"⟩, 35) := ⟨⟨by decide +kernel, by decide +kernel⟩, List.mem_of_getElem? (i := 779) (by decide +kernel), List.mem_of_getElem? (i := 1151) (by decide +kernel), List.mem_of_getElem? (i := 1152) (by decide +kernel)⟩
theorem lw_p45 : lw_okq (⟨"LeaningTreesModel", "write", "(I)V"⟩, 35) := ⟨⟨by decide +kernel, by decide +kernel⟩, List.mem_of_getElem? (i := 779) (by decide +kernel), List.mem_of_getElem? (i := 1159) (by decide +kernel), List.mem_of_getElem? (i := 1160) (by decide +kernel)⟩
def lw_privs_3 : List (MethodName × Nat) := [(⟨"LeaningTreesModel", "reads", "(IIIIII)I"⟩, 35), (⟨"LeaningTreesModel", "up", "(III)I"⟩, 35), (⟨"LeaningTreesModel", "down", "(III)I"⟩, 35), (⟨"LeaningTreesModel", "mirrored", "(II)I"⟩, 35), (⟨"LeaningTreesModel", "barOf", "(I)I"⟩, 35), (⟨"LeaningTreesModel", "bound", "(IIZ)I"⟩, 35), (⟨"LeaningTreesModel", "isBetween", "(III)Z"⟩, 35), (⟨"LeaningTreesModel", "measure", "(IZ)V"⟩, 35), (⟨"LeaningTreesModel", "firstTurn", "(I)I"⟩, 35), (⟨"LeaningTreesModel", "longest", "(I)I"⟩, 35), (⟨"LeaningTreesModel", "makes", "(II)V"⟩, 35), (⟨"LeaningTreesModel", "sees", "(Z)Z"⟩, 35), (⟨"LeaningTreesModel", "sign", "()I"⟩, 35), (⟨"LeaningTreesModel", "write", "(I)V"⟩, 35)]
theorem lw_r3 : ∀ q ∈ lw_privs_3, lw_okq q := List.forall_mem_cons.mpr ⟨lw_p32, List.forall_mem_cons.mpr ⟨lw_p33, List.forall_mem_cons.mpr ⟨lw_p34, List.forall_mem_cons.mpr ⟨lw_p35, List.forall_mem_cons.mpr ⟨lw_p36, List.forall_mem_cons.mpr ⟨lw_p37, List.forall_mem_cons.mpr ⟨lw_p38, List.forall_mem_cons.mpr ⟨lw_p39, List.forall_mem_cons.mpr ⟨lw_p40, List.forall_mem_cons.mpr ⟨lw_p41, List.forall_mem_cons.mpr ⟨lw_p42, List.forall_mem_cons.mpr ⟨lw_p43, List.forall_mem_cons.mpr ⟨lw_p44, List.forall_mem_cons.mpr ⟨lw_p45, fun _ h => absurd h List.not_mem_nil⟩⟩⟩⟩⟩⟩⟩⟩⟩⟩⟩⟩⟩⟩
def lw_privs : List (MethodName × Nat) := lw_privs_1 ++ (lw_privs_2 ++ (lw_privs_3))
def lw_tbl : List Cond := k2_sels lw_privs ++ tables_1
theorem lw_privs_ok : ∀ q ∈ lw_privs, lw_okq q := by
  show ∀ q ∈ lw_privs_1 ++ (lw_privs_2 ++ (lw_privs_3)), lw_okq q
  exact List.forall_mem_append.mpr ⟨lw_r1, List.forall_mem_append.mpr ⟨lw_r2, lw_r3⟩⟩
end
section
def RX0 : String := "LeaningTrees$Forest"
def TX0 : u_T := fun k => match k with
  | 0 => ("LeaningTrees$Forest", "codes", "[I", true)
  | _ => ("LeaningTrees$Forest", "sizes", "[I", true)
def tyX0 : Nat → FieldType := fun k => match k with
  | 0 => .array .int
  | _ => .array .int
abbrev wsX00 : List Cond := u_ws RX0 TX0 2
theorem nmX0 : ∀ a, a < 2 → ∀ b, b < 2 → a ≠ b → (TX0 a).2.1 ≠ (TX0 b).2.1 := by decide +kernel
theorem tyX0_ok : ∀ k, k < 2 → parseFieldDescriptor (TX0 k).2.2.1 = some (tyX0 k) := by decide +kernel
abbrev cX0_init : ByteArray := prog_2_method_1_code
def yX0_init : MethodName := ⟨RX0, "<init>", "()V"⟩
abbrev cX0_growAll : ByteArray := prog_2_method_2_code
def yX0_growAll : MethodName := ⟨RX0, "growAll", "(III)I"⟩
abbrev cX0_isSize : ByteArray := prog_2_method_3_code
def yX0_isSize : MethodName := ⟨RX0, "isSize", "(I)Z"⟩
abbrev cX0_firstOf : ByteArray := prog_2_method_4_code
def yX0_firstOf : MethodName := ⟨RX0, "firstOf", "(I)I"⟩
abbrev cX0_lastOf : ByteArray := prog_2_method_5_code
def yX0_lastOf : MethodName := ⟨RX0, "lastOf", "(I)I"⟩
abbrev cX0_howMany : ByteArray := prog_2_method_6_code
def yX0_howMany : MethodName := ⟨RX0, "howMany", "(I)I"⟩
abbrev cX0_sizeOf : ByteArray := prog_2_method_7_code
def yX0_sizeOf : MethodName := ⟨RX0, "sizeOf", "(I)I"⟩
abbrev cX0_codeOf : ByteArray := prog_2_method_8_code
def yX0_codeOf : MethodName := ⟨RX0, "codeOf", "(I)I"⟩
abbrev cX0_numberOf : ByteArray := prog_2_method_9_code
def yX0_numberOf : MethodName := ⟨RX0, "numberOf", "(I)I"⟩
abbrev cX0_find : ByteArray := prog_2_method_10_code
def yX0_find : MethodName := ⟨RX0, "find", "(II)I"⟩
abbrev cX0_findDigits : ByteArray := prog_2_method_11_code
def yX0_findDigits : MethodName := ⟨RX0, "findDigits", "(II)I"⟩
abbrev cX0_asDigits : ByteArray := prog_2_method_12_code
def yX0_asDigits : MethodName := ⟨RX0, "asDigits", "(I)I"⟩
abbrev cX0_digitOf : ByteArray := prog_2_method_13_code
def yX0_digitOf : MethodName := ⟨RX0, "digitOf", "(III)I"⟩
abbrev cX0_digitAt : ByteArray := prog_2_method_14_code
def yX0_digitAt : MethodName := ⟨RX0, "digitAt", "(III)I"⟩
abbrev cX0_rightSize : ByteArray := prog_2_method_15_code
def yX0_rightSize : MethodName := ⟨RX0, "rightSize", "(II)I"⟩
abbrev cX0_end : ByteArray := prog_2_method_16_code
def yX0_end : MethodName := ⟨RX0, "end", "(II)I"⟩
abbrev cX0_leftSize : ByteArray := prog_2_method_17_code
def yX0_leftSize : MethodName := ⟨RX0, "leftSize", "(II)I"⟩
abbrev cX0_parent : ByteArray := prog_2_method_18_code
def yX0_parent : MethodName := ⟨RX0, "parent", "(II)I"⟩
abbrev cX0_isLeftChild : ByteArray := prog_2_method_19_code
def yX0_isLeftChild : MethodName := ⟨RX0, "isLeftChild", "(II)Z"⟩
abbrev cX0_leftChild : ByteArray := prog_2_method_20_code
def yX0_leftChild : MethodName := ⟨RX0, "leftChild", "(II)I"⟩
abbrev cX0_rightChild : ByteArray := prog_2_method_21_code
def yX0_rightChild : MethodName := ⟨RX0, "rightChild", "(II)I"⟩
abbrev cX0_top : ByteArray := prog_2_method_22_code
def yX0_top : MethodName := ⟨RX0, "top", "(III)I"⟩
abbrev cX0_depth : ByteArray := prog_2_method_23_code
def yX0_depth : MethodName := ⟨RX0, "depth", "(II)I"⟩
abbrev cX0_turnedUp : ByteArray := prog_2_method_24_code
def yX0_turnedUp : MethodName := ⟨RX0, "turnedUp", "(II)I"⟩
abbrev cX0_turnedBack : ByteArray := prog_2_method_25_code
def yX0_turnedBack : MethodName := ⟨RX0, "turnedBack", "(II)I"⟩
abbrev cX0_turnedAsTold : ByteArray := prog_2_method_26_code
def yX0_turnedAsTold : MethodName := ⟨RX0, "turnedAsTold", "(IJ)I"⟩
abbrev cX0_leftChildren : ByteArray := prog_2_method_27_code
def yX0_leftChildren : MethodName := ⟨RX0, "leftChildren", "(I)I"⟩
abbrev cX0_withRightChild : ByteArray := prog_2_method_28_code
def yX0_withRightChild : MethodName := ⟨RX0, "withRightChild", "(I)I"⟩
abbrev cX0_howManyWith : ByteArray := prog_2_method_29_code
def yX0_howManyWith : MethodName := ⟨RX0, "howManyWith", "(II)I"⟩
abbrev cX0_leastWith : ByteArray := prog_2_method_30_code
def yX0_leastWith : MethodName := ⟨RX0, "leastWith", "(II)I"⟩
abbrev cX0_greatestWith : ByteArray := prog_2_method_31_code
def yX0_greatestWith : MethodName := ⟨RX0, "greatestWith", "(II)I"⟩
abbrev cX0_mirrored : ByteArray := prog_2_method_32_code
def yX0_mirrored : MethodName := ⟨RX0, "mirrored", "(I)I"⟩
abbrev cX0_setOver : ByteArray := prog_2_method_33_code
def yX0_setOver : MethodName := ⟨RX0, "setOver", "(II)I"⟩
abbrev cX0_setUnder : ByteArray := prog_2_method_34_code
def yX0_setUnder : MethodName := ⟨RX0, "setUnder", "(II)I"⟩
abbrev cX0_sideBySide : ByteArray := prog_2_method_35_code
def yX0_sideBySide : MethodName := ⟨RX0, "sideBySide", "(III)I"⟩
abbrev cX0_textLength : ByteArray := prog_2_method_36_code
def yX0_textLength : MethodName := ⟨RX0, "textLength", "(I)I"⟩
abbrev cX0_textByte : ByteArray := prog_2_method_37_code
def yX0_textByte : MethodName := ⟨RX0, "textByte", "(II)I"⟩
abbrev cX0_opening : ByteArray := prog_2_method_38_code
def yX0_opening : MethodName := ⟨RX0, "opening", "(II)I"⟩
abbrev cX0_closing : ByteArray := prog_2_method_39_code
def yX0_closing : MethodName := ⟨RX0, "closing", "(II)I"⟩
def RX1 : String := "LeaningTrees$Lists"
def TX1 : u_T := fun k => match k with
  | 0 => ("LeaningTrees$Lists", "longs", "[[J", true)
  | _ => ("LeaningTrees$Lists", "lengths", "[I", true)
def tyX1 : Nat → FieldType := fun k => match k with
  | 0 => .array (.array .long)
  | _ => .array .int
abbrev wsX10 : List Cond := u_ws RX1 TX1 2
theorem nmX1 : ∀ a, a < 2 → ∀ b, b < 2 → a ≠ b → (TX1 a).2.1 ≠ (TX1 b).2.1 := by decide +kernel
theorem tyX1_ok : ∀ k, k < 2 → parseFieldDescriptor (TX1 k).2.2.1 = some (tyX1 k) := by decide +kernel
abbrev cX1_init : ByteArray := prog_3_method_1_code
def yX1_init : MethodName := ⟨RX1, "<init>", "()V"⟩
abbrev cX1_isList : ByteArray := prog_3_method_2_code
def yX1_isList : MethodName := ⟨RX1, "isList", "(I)Z"⟩
abbrev cX1_lengthOf : ByteArray := prog_3_method_3_code
def yX1_lengthOf : MethodName := ⟨RX1, "lengthOf", "(I)I"⟩
abbrev cX1_isThere : ByteArray := prog_3_method_4_code
def yX1_isThere : MethodName := ⟨RX1, "isThere", "(I)Z"⟩
abbrev cX1_isPlace : ByteArray := prog_3_method_5_code
def yX1_isPlace : MethodName := ⟨RX1, "isPlace", "(II)Z"⟩
abbrev cX1_renew : ByteArray := prog_3_method_6_code
def yX1_renew : MethodName := ⟨RX1, "renew", "(II)V"⟩
abbrev cX1_store : ByteArray := prog_3_method_7_code
def yX1_store : MethodName := ⟨RX1, "store", "(IIJ)V"⟩
abbrev cX1_valueAt : ByteArray := prog_3_method_8_code
def yX1_valueAt : MethodName := ⟨RX1, "valueAt", "(II)J"⟩
abbrev cX1_howManyThere : ByteArray := prog_3_method_9_code
def yX1_howManyThere : MethodName := ⟨RX1, "howManyThere", "()I"⟩
def RX2 : String := "LeaningTrees$Order"
def TX2 : u_T := fun k => match k with
  | 0 => ("LeaningTrees$Order", "forest", "LLeaningTrees$Forest;", true)
  | 1 => ("LeaningTrees$Order", "markedCodes", "[I", true)
  | _ => ("LeaningTrees$Order", "marks", "[I", true)
def tyX2 : Nat → FieldType := fun k => match k with
  | 0 => .object "LeaningTrees$Forest"
  | 1 => .array .int
  | _ => .array .int
abbrev wsX20 : List Cond := u_ws RX2 TX2 3
theorem nmX2 : ∀ a, a < 3 → ∀ b, b < 3 → a ≠ b → (TX2 a).2.1 ≠ (TX2 b).2.1 := by decide +kernel
theorem tyX2_ok : ∀ k, k < 3 → parseFieldDescriptor (TX2 k).2.2.1 = some (tyX2 k) := by decide +kernel
abbrev cX2_init : ByteArray := prog_4_method_1_code
def yX2_init : MethodName := ⟨RX2, "<init>", "(LLeaningTrees$Forest;)V"⟩
abbrev cX2_noMore : ByteArray := prog_4_method_2_code
def yX2_noMore : MethodName := ⟨RX2, "noMore", "(II)Z"⟩
abbrev cX2_isBelow : ByteArray := prog_4_method_3_code
def yX2_isBelow : MethodName := ⟨RX2, "isBelow", "(II)Z"⟩
abbrev cX2_isWithin : ByteArray := prog_4_method_4_code
def yX2_isWithin : MethodName := ⟨RX2, "isWithin", "(III)Z"⟩
abbrev cX2_meetOrJoin : ByteArray := prog_4_method_5_code
def yX2_meetOrJoin : MethodName := ⟨RX2, "meetOrJoin", "(IIZ)I"⟩
abbrev cX2_meetOf : ByteArray := prog_4_method_6_code
def yX2_meetOf : MethodName := ⟨RX2, "meetOf", "(II)I"⟩
abbrev cX2_joinOf : ByteArray := prog_4_method_7_code
def yX2_joinOf : MethodName := ⟨RX2, "joinOf", "(II)I"⟩
abbrev cX2_howManyBetween : ByteArray := prog_4_method_8_code
def yX2_howManyBetween : MethodName := ⟨RX2, "howManyBetween", "(II)I"⟩
abbrev cX2_nthBetween : ByteArray := prog_4_method_9_code
def yX2_nthBetween : MethodName := ⟨RX2, "nthBetween", "(III)I"⟩
abbrev cX2_markOf : ByteArray := prog_4_method_10_code
def yX2_markOf : MethodName := ⟨RX2, "markOf", "(II)I"⟩
abbrev cX2_sumBelow : ByteArray := prog_4_method_11_code
def yX2_sumBelow : MethodName := ⟨RX2, "sumBelow", "(II)I"⟩
abbrev cX2_howManyPairs : ByteArray := prog_4_method_12_code
def yX2_howManyPairs : MethodName := ⟨RX2, "howManyPairs", "(I)I"⟩
def RX3 : String := "LeaningTrees$Steps"
def TX3 : u_T := fun k => match k with
  | 0 => ("LeaningTrees$Steps", "trees", "[I", true)
  | _ => ("LeaningTrees$Steps", "held", "I", false)
def tyX3 : Nat → FieldType := fun k => match k with
  | 0 => .array .int
  | _ => .int
abbrev wsX30 : List Cond := u_ws RX3 TX3 2
theorem nmX3 : ∀ a, a < 2 → ∀ b, b < 2 → a ≠ b → (TX3 a).2.1 ≠ (TX3 b).2.1 := by decide +kernel
theorem tyX3_ok : ∀ k, k < 2 → parseFieldDescriptor (TX3 k).2.2.1 = some (tyX3 k) := by decide +kernel
abbrev cX3_init : ByteArray := prog_5_method_1_code
def yX3_init : MethodName := ⟨RX3, "<init>", "()V"⟩
abbrev cX3_add : ByteArray := prog_5_method_2_code
def yX3_add : MethodName := ⟨RX3, "add", "(I)V"⟩
abbrev cX3_takeLatest : ByteArray := prog_5_method_3_code
def yX3_takeLatest : MethodName := ⟨RX3, "takeLatest", "()I"⟩
abbrev cX3_clear : ByteArray := prog_5_method_4_code
def yX3_clear : MethodName := ⟨RX3, "clear", "()V"⟩
abbrev cX3_held : ByteArray := prog_5_method_5_code
def yX3_held : MethodName := ⟨RX3, "held", "()I"⟩
def RX4 : String := "LeaningTrees$Tape"
def TX4 : u_T := fun k => match k with
  | 0 => ("LeaningTrees$Tape", "bytes", "[I", true)
  | 1 => ("LeaningTrees$Tape", "length", "I", false)
  | 2 => ("LeaningTrees$Tape", "awaited", "[I", true)
  | 3 => ("LeaningTrees$Tape", "openNodes", "[I", true)
  | 4 => ("LeaningTrees$Tape", "rightSizes", "[I", true)
  | 5 => ("LeaningTrees$Tape", "open", "I", false)
  | 6 => ("LeaningTrees$Tape", "opened", "I", false)
  | _ => ("LeaningTrees$Tape", "numbered", "I", false)
def tyX4 : Nat → FieldType := fun k => match k with
  | 0 => .array .int
  | 1 => .int
  | 2 => .array .int
  | 3 => .array .int
  | 4 => .array .int
  | 5 => .int
  | 6 => .int
  | _ => .int
abbrev wsX40 : List Cond := u_ws RX4 TX4 8
theorem nmX4 : ∀ a, a < 8 → ∀ b, b < 8 → a ≠ b → (TX4 a).2.1 ≠ (TX4 b).2.1 := by decide +kernel
theorem tyX4_ok : ∀ k, k < 8 → parseFieldDescriptor (TX4 k).2.2.1 = some (tyX4 k) := by decide +kernel
abbrev cX4_init : ByteArray := prog_6_method_1_code
def yX4_init : MethodName := ⟨RX4, "<init>", "()V"⟩
abbrev cX4_length : ByteArray := prog_6_method_2_code
def yX4_length : MethodName := ⟨RX4, "length", "()I"⟩
abbrev cX4_clear : ByteArray := prog_6_method_3_code
def yX4_clear : MethodName := ⟨RX4, "clear", "()V"⟩
abbrev cX4_append : ByteArray := prog_6_method_4_code
def yX4_append : MethodName := ⟨RX4, "append", "(I)Z"⟩
abbrev cX4_parse : ByteArray := prog_6_method_5_code
def yX4_parse : MethodName := ⟨RX4, "parse", "()I"⟩
abbrev cX4_parsedNodes : ByteArray := prog_6_method_6_code
def yX4_parsedNodes : MethodName := ⟨RX4, "parsedNodes", "()I"⟩
abbrev cX4_parsedCode : ByteArray := prog_6_method_7_code
def yX4_parsedCode : MethodName := ⟨RX4, "parsedCode", "()I"⟩
abbrev cX4_isWhole : ByteArray := prog_6_method_8_code
def yX4_isWhole : MethodName := ⟨RX4, "isWhole", "()Z"⟩
abbrev cX4_accepts : ByteArray := prog_6_method_9_code
def yX4_accepts : MethodName := ⟨RX4, "accepts", "(I)Z"⟩
abbrev cX4_awaitedNow : ByteArray := prog_6_method_10_code
def yX4_awaitedNow : MethodName := ⟨RX4, "awaitedNow", "()I"⟩
abbrev cX4_opensNode : ByteArray := prog_6_method_11_code
def yX4_opensNode : MethodName := ⟨RX4, "opensNode", "()Z"⟩
abbrev cX4_staysNothing : ByteArray := prog_6_method_12_code
def yX4_staysNothing : MethodName := ⟨RX4, "staysNothing", "()Z"⟩
abbrev cX4_closesNode : ByteArray := prog_6_method_13_code
def yX4_closesNode : MethodName := ⟨RX4, "closesNode", "()Z"⟩
abbrev cX4_endSubtree : ByteArray := prog_6_method_14_code
def yX4_endSubtree : MethodName := ⟨RX4, "endSubtree", "()V"⟩
def RX5 : String := "LeaningTrees$Ways"
def TX5 : u_T := fun k => match k with
  | 0 => ("LeaningTrees$Ways", "forest", "LLeaningTrees$Forest;", true)
  | 1 => ("LeaningTrees$Ways", "ups", "[I", true)
  | 2 => ("LeaningTrees$Ways", "backs", "[I", true)
  | 3 => ("LeaningTrees$Ways", "learned", "[Z", true)
  | 4 => ("LeaningTrees$Ways", "turns", "[I", true)
  | 5 => ("LeaningTrees$Ways", "queue", "[I", true)
  | 6 => ("LeaningTrees$Ways", "turnsUp", "[I", true)
  | 7 => ("LeaningTrees$Ways", "queued", "I", false)
  | _ => ("LeaningTrees$Ways", "measured", "I", false)
def tyX5 : Nat → FieldType := fun k => match k with
  | 0 => .object "LeaningTrees$Forest"
  | 1 => .array .int
  | 2 => .array .int
  | 3 => .array .boolean
  | 4 => .array .int
  | 5 => .array .int
  | 6 => .array .int
  | 7 => .int
  | _ => .int
abbrev wsX50 : List Cond := u_ws RX5 TX5 9
theorem nmX5 : ∀ a, a < 9 → ∀ b, b < 9 → a ≠ b → (TX5 a).2.1 ≠ (TX5 b).2.1 := by decide +kernel
theorem tyX5_ok : ∀ k, k < 9 → parseFieldDescriptor (TX5 k).2.2.1 = some (tyX5 k) := by decide +kernel
abbrev cX5_init : ByteArray := prog_7_method_1_code
def yX5_init : MethodName := ⟨RX5, "<init>", "(LLeaningTrees$Forest;)V"⟩
abbrev cX5_isTree : ByteArray := prog_7_method_2_code
def yX5_isTree : MethodName := ⟨RX5, "isTree", "(I)Z"⟩
abbrev cX5_turnPlace : ByteArray := prog_7_method_3_code
def yX5_turnPlace : MethodName := ⟨RX5, "turnPlace", "(II)I"⟩
abbrev cX5_learn : ByteArray := prog_7_method_4_code
def yX5_learn : MethodName := ⟨RX5, "learn", "(I)V"⟩
abbrev cX5_measure : ByteArray := prog_7_method_5_code
def yX5_measure : MethodName := ⟨RX5, "measure", "(I)V"⟩
abbrev cX5_reach : ByteArray := prog_7_method_6_code
def yX5_reach : MethodName := ⟨RX5, "reach", "(II)V"⟩
abbrev cX5_turnsFrom : ByteArray := prog_7_method_7_code
def yX5_turnsFrom : MethodName := ⟨RX5, "turnsFrom", "(I)I"⟩
abbrev cX5_firstTurn : ByteArray := prog_7_method_8_code
def yX5_firstTurn : MethodName := ⟨RX5, "firstTurn", "(I)I"⟩
abbrev cX5_farthest : ByteArray := prog_7_method_9_code
def yX5_farthest : MethodName := ⟨RX5, "farthest", "()I"⟩
abbrev cX5_howManyFarthest : ByteArray := prog_7_method_10_code
def yX5_howManyFarthest : MethodName := ⟨RX5, "howManyFarthest", "()I"⟩
abbrev cX5_leastFarthest : ByteArray := prog_7_method_11_code
def yX5_leastFarthest : MethodName := ⟨RX5, "leastFarthest", "()I"⟩
abbrev cX5_turnsUpAlone : ByteArray := prog_7_method_12_code
def yX5_turnsUpAlone : MethodName := ⟨RX5, "turnsUpAlone", "(IIZ)I"⟩
abbrev cX5_improve : ByteArray := prog_7_method_13_code
def yX5_improve : MethodName := ⟨RX5, "improve", "(IIZ)V"⟩
def RX6 : String := "LeaningTrees"
def TX6 : u_T := fun k => match k with
  | 0 => ("LeaningTrees", "forest", "LLeaningTrees$Forest;", true)
  | 1 => ("LeaningTrees", "order", "LLeaningTrees$Order;", true)
  | 2 => ("LeaningTrees", "ways", "LLeaningTrees$Ways;", true)
  | 3 => ("LeaningTrees", "steps", "LLeaningTrees$Steps;", true)
  | 4 => ("LeaningTrees", "lists", "LLeaningTrees$Lists;", true)
  | 5 => ("LeaningTrees", "tape", "LLeaningTrees$Tape;", true)
  | 6 => ("LeaningTrees", "shelves", "[I", true)
  | 7 => ("LeaningTrees", "imageShelves", "[I", true)
  | 8 => ("LeaningTrees", "imageTree", "I", false)
  | _ => ("LeaningTrees", "tree", "I", false)
def tyX6 : Nat → FieldType := fun k => match k with
  | 0 => .object "LeaningTrees$Forest"
  | 1 => .object "LeaningTrees$Order"
  | 2 => .object "LeaningTrees$Ways"
  | 3 => .object "LeaningTrees$Steps"
  | 4 => .object "LeaningTrees$Lists"
  | 5 => .object "LeaningTrees$Tape"
  | 6 => .array .int
  | 7 => .array .int
  | 8 => .int
  | _ => .int
abbrev wsX60 : List Cond := u_ws RX6 TX6 10
theorem nmX6 : ∀ a, a < 10 → ∀ b, b < 10 → a ≠ b → (TX6 a).2.1 ≠ (TX6 b).2.1 := by decide +kernel
theorem tyX6_ok : ∀ k, k < 10 → parseFieldDescriptor (TX6 k).2.2.1 = some (tyX6 k) := by decide +kernel
abbrev cX6_init : ByteArray := prog_1_method_1_code
def yX6_init : MethodName := ⟨RX6, "<init>", "()V"⟩
abbrev cX6_nodes : ByteArray := prog_1_method_2_code
def yX6_nodes : MethodName := ⟨RX6, "nodes", "(I)I"⟩
abbrev cX6_row : ByteArray := prog_1_method_3_code
def yX6_row : MethodName := ⟨RX6, "row", "(I)I"⟩
abbrev cX6_of : ByteArray := prog_1_method_4_code
def yX6_of : MethodName := ⟨RX6, "of", "(II)I"⟩
abbrev cX6_number : ByteArray := prog_1_method_5_code
def yX6_number : MethodName := ⟨RX6, "number", "(I)I"⟩
abbrev cX6_which : ByteArray := prog_1_method_6_code
def yX6_which : MethodName := ⟨RX6, "which", "()I"⟩
abbrev cX6_many : ByteArray := prog_1_method_7_code
def yX6_many : MethodName := ⟨RX6, "many", "(I)I"⟩
abbrev cX6_digits : ByteArray := prog_1_method_8_code
def yX6_digits : MethodName := ⟨RX6, "digits", "()I"⟩
abbrev cX6_turn : ByteArray := prog_1_method_9_code
def yX6_turn : MethodName := ⟨RX6, "turn", "(I)I"⟩
abbrev cX6_back : ByteArray := prog_1_method_10_code
def yX6_back : MethodName := ⟨RX6, "back", "(I)I"⟩
abbrev cX6_mayTurn : ByteArray := prog_1_method_11_code
def yX6_mayTurn : MethodName := ⟨RX6, "mayTurn", "(I)I"⟩
abbrev cX6_mirror : ByteArray := prog_1_method_12_code
def yX6_mirror : MethodName := ⟨RX6, "mirror", "()I"⟩
abbrev cX6_off : ByteArray := prog_1_method_13_code
def yX6_off : MethodName := ⟨RX6, "off", "()I"⟩
abbrev cX6_below : ByteArray := prog_1_method_14_code
def yX6_below : MethodName := ⟨RX6, "below", "(II)I"⟩
abbrev cX6_meet : ByteArray := prog_1_method_15_code
def yX6_meet : MethodName := ⟨RX6, "meet", "(II)I"⟩
abbrev cX6_meetAll : ByteArray := prog_1_method_16_code
def yX6_meetAll : MethodName := ⟨RX6, "meetAll", "(I)I"⟩
abbrev cX6_between : ByteArray := prog_1_method_17_code
def yX6_between : MethodName := ⟨RX6, "between", "(II)I"⟩
abbrev cX6_way : ByteArray := prog_1_method_18_code
def yX6_way : MethodName := ⟨RX6, "way", "(II)I"⟩
abbrev cX6_chain : ByteArray := prog_1_method_19_code
def yX6_chain : MethodName := ⟨RX6, "chain", "(II)I"⟩
abbrev cX6_mark : ByteArray := prog_1_method_20_code
def yX6_mark : MethodName := ⟨RX6, "mark", "(I)I"⟩
abbrev cX6_pairs : ByteArray := prog_1_method_21_code
def yX6_pairs : MethodName := ⟨RX6, "pairs", "(I)I"⟩
abbrev cX6_far : ByteArray := prog_1_method_22_code
def yX6_far : MethodName := ⟨RX6, "far", "(I)I"⟩
abbrev cX6_canopy : ByteArray := prog_1_method_23_code
def yX6_canopy : MethodName := ⟨RX6, "canopy", "()I"⟩
abbrev cX6_inClass : ByteArray := prog_1_method_24_code
def yX6_inClass : MethodName := ⟨RX6, "inClass", "(II)I"⟩
abbrev cX6_likeness : ByteArray := prog_1_method_25_code
def yX6_likeness : MethodName := ⟨RX6, "likeness", "(I)I"⟩
abbrev cX6_keep : ByteArray := prog_1_method_26_code
def yX6_keep : MethodName := ⟨RX6, "keep", "(I)I"⟩
abbrev cX6_lay : ByteArray := prog_1_method_27_code
def yX6_lay : MethodName := ⟨RX6, "lay", "(I)I"⟩
abbrev cX6_lose : ByteArray := prog_1_method_28_code
def yX6_lose : MethodName := ⟨RX6, "lose", "(I)I"⟩
abbrev cX6_over : ByteArray := prog_1_method_29_code
def yX6_over : MethodName := ⟨RX6, "over", "(I)I"⟩
abbrev cX6_under : ByteArray := prog_1_method_30_code
def yX6_under : MethodName := ⟨RX6, "under", "(I)I"⟩
abbrev cX6_shelf : ByteArray := prog_1_method_31_code
def yX6_shelf : MethodName := ⟨RX6, "shelf", "(II)I"⟩
abbrev cX6_list : ByteArray := prog_1_method_32_code
def yX6_list : MethodName := ⟨RX6, "list", "(II)I"⟩
abbrev cX6_put : ByteArray := prog_1_method_33_code
def yX6_put : MethodName := ⟨RX6, "put", "(IIJ)I"⟩
abbrev cX6_get : ByteArray := prog_1_method_34_code
def yX6_get : MethodName := ⟨RX6, "get", "(II)J"⟩
abbrev cX6_play : ByteArray := prog_1_method_35_code
def yX6_play : MethodName := ⟨RX6, "play", "(I)I"⟩
abbrev cX6_film : ByteArray := prog_1_method_36_code
def yX6_film : MethodName := ⟨RX6, "film", "(II)I"⟩
abbrev cX6_feed : ByteArray := prog_1_method_37_code
def yX6_feed : MethodName := ⟨RX6, "feed", "(I)I"⟩
abbrev cX6_wipe : ByteArray := prog_1_method_38_code
def yX6_wipe : MethodName := ⟨RX6, "wipe", "()I"⟩
abbrev cX6_read : ByteArray := prog_1_method_39_code
def yX6_read : MethodName := ⟨RX6, "read", "()I"⟩
abbrev cX6_written : ByteArray := prog_1_method_40_code
def yX6_written : MethodName := ⟨RX6, "written", "(I)I"⟩
abbrev cX6_image : ByteArray := prog_1_method_41_code
def yX6_image : MethodName := ⟨RX6, "image", "()I"⟩
abbrev cX6_undo : ByteArray := prog_1_method_42_code
def yX6_undo : MethodName := ⟨RX6, "undo", "()I"⟩
abbrev cX6_count : ByteArray := prog_1_method_43_code
def yX6_count : MethodName := ⟨RX6, "count", "(I)I"⟩
abbrev cX6_size : ByteArray := prog_1_method_44_code
def yX6_size : MethodName := ⟨RX6, "size", "()I"⟩
abbrev cX6_isNode : ByteArray := prog_1_method_45_code
def yX6_isNode : MethodName := ⟨RX6, "isNode", "(I)Z"⟩
abbrev cX6_become : ByteArray := prog_1_method_46_code
def yX6_become : MethodName := ⟨RX6, "become", "(I)V"⟩
abbrev cX6_becomeAndTell : ByteArray := prog_1_method_47_code
def yX6_becomeAndTell : MethodName := ⟨RX6, "becomeAndTell", "(I)I"⟩
abbrev cX6_isShelf : ByteArray := prog_1_method_48_code
def yX6_isShelf : MethodName := ⟨RX6, "isShelf", "(I)Z"⟩
abbrev cX6_lack : ByteArray := prog_1_method_49_code
def yX6_lack : MethodName := ⟨RX6, "lack", "(I)I"⟩
abbrev cX6_lackOrTooMany : ByteArray := prog_1_method_50_code
def yX6_lackOrTooMany : MethodName := ⟨RX6, "lackOrTooMany", "(I)I"⟩
abbrev cX6_refusal : ByteArray := prog_1_method_51_code
def yX6_refusal : MethodName := ⟨RX6, "refusal", "(I)I"⟩
abbrev cX6_refusalOfTwo : ByteArray := prog_1_method_52_code
def yX6_refusalOfTwo : MethodName := ⟨RX6, "refusalOfTwo", "(II)I"⟩
abbrev cX6_shelvesInUse : ByteArray := prog_1_method_53_code
def yX6_shelvesInUse : MethodName := ⟨RX6, "shelvesInUse", "()I"⟩
def RX7 : String := "LeaningTreesModel"
def TX7 : u_T := fun k => match k with
  | 0 => ("LeaningTreesModel", "nodes", "I", false)
  | 1 => ("LeaningTreesModel", "tree", "I", false)
  | 2 => ("LeaningTreesModel", "shelfNodes", "[I", true)
  | 3 => ("LeaningTreesModel", "shelfTree", "[I", true)
  | 4 => ("LeaningTreesModel", "stepNodes", "[I", true)
  | 5 => ("LeaningTreesModel", "stepTree", "[I", true)
  | 6 => ("LeaningTreesModel", "steps", "I", false)
  | 7 => ("LeaningTreesModel", "lists", "[J", true)
  | 8 => ("LeaningTreesModel", "listSize", "[I", true)
  | 9 => ("LeaningTreesModel", "tape", "[I", true)
  | 10 => ("LeaningTreesModel", "taped", "I", false)
  | 11 => ("LeaningTreesModel", "at", "I", false)
  | 12 => ("LeaningTreesModel", "imaged", "Z", false)
  | 13 => ("LeaningTreesModel", "imageNodes", "I", false)
  | 14 => ("LeaningTreesModel", "imageTree", "I", false)
  | 15 => ("LeaningTreesModel", "imageShelfNodes", "[I", true)
  | 16 => ("LeaningTreesModel", "imageShelfTree", "[I", true)
  | 17 => ("LeaningTreesModel", "all", "[I", true)
  | 18 => ("LeaningTreesModel", "many", "I", false)
  | 19 => ("LeaningTreesModel", "tableOf", "I", false)
  | 20 => ("LeaningTreesModel", "parent", "[I", true)
  | 21 => ("LeaningTreesModel", "left", "[I", true)
  | 22 => ("LeaningTreesModel", "right", "[I", true)
  | 23 => ("LeaningTreesModel", "leftSize", "[I", true)
  | 24 => ("LeaningTreesModel", "above", "[I", true)
  | 25 => ("LeaningTreesModel", "read", "I", false)
  | 26 => ("LeaningTreesModel", "dist", "[I", true)
  | 27 => ("LeaningTreesModel", "queue", "[I", true)
  | 28 => ("LeaningTreesModel", "marks", "[I", true)
  | 29 => ("LeaningTreesModel", "text", "[I", true)
  | 30 => ("LeaningTreesModel", "written", "I", false)
  | 31 => ("LeaningTreesModel", "seen", "I", false)
  | 32 => ("LeaningTreesModel", "seenRow", "[I", true)
  | 33 => ("LeaningTreesModel", "open", "I", false)
  | _ => ("LeaningTreesModel", "part", "I", false)
def tyX7 : Nat → FieldType := fun k => match k with
  | 0 => .int
  | 1 => .int
  | 2 => .array .int
  | 3 => .array .int
  | 4 => .array .int
  | 5 => .array .int
  | 6 => .int
  | 7 => .array .long
  | 8 => .array .int
  | 9 => .array .int
  | 10 => .int
  | 11 => .int
  | 12 => .boolean
  | 13 => .int
  | 14 => .int
  | 15 => .array .int
  | 16 => .array .int
  | 17 => .array .int
  | 18 => .int
  | 19 => .int
  | 20 => .array .int
  | 21 => .array .int
  | 22 => .array .int
  | 23 => .array .int
  | 24 => .array .int
  | 25 => .int
  | 26 => .array .int
  | 27 => .array .int
  | 28 => .array .int
  | 29 => .array .int
  | 30 => .int
  | 31 => .int
  | 32 => .array .int
  | 33 => .int
  | _ => .int
abbrev wsX70 : List Cond := u_ws RX7 TX7 35
theorem nmX7 : ∀ a, a < 35 → ∀ b, b < 35 → a ≠ b → (TX7 a).2.1 ≠ (TX7 b).2.1 := by decide +kernel
theorem tyX7_ok : ∀ k, k < 35 → parseFieldDescriptor (TX7 k).2.2.1 = some (tyX7 k) := by decide +kernel
abbrev cX7_init : ByteArray := prog_9_method_1_code
def yX7_init : MethodName := ⟨RX7, "<init>", "()V"⟩
abbrev cX7_in : ByteArray := prog_9_method_2_code
def yX7_in : MethodName := ⟨RX7, "in", "(JJJ)Z"⟩
abbrev cX7_ten : ByteArray := prog_9_method_3_code
def yX7_ten : MethodName := ⟨RX7, "ten", "(I)I"⟩
abbrev cX7_at : ByteArray := prog_9_method_4_code
def yX7_at : MethodName := ⟨RX7, "at", "(III)I"⟩
abbrev cX7_with : ByteArray := prog_9_method_5_code
def yX7_with : MethodName := ⟨RX7, "with", "(IIII)I"⟩
abbrev cX7_isTree : ByteArray := prog_9_method_6_code
def yX7_isTree : MethodName := ⟨RX7, "isTree", "(II)Z"⟩
abbrev cX7_table : ByteArray := prog_9_method_7_code
def yX7_table : MethodName := ⟨RX7, "table", "(I)V"⟩
abbrev cX7_numberOf : ByteArray := prog_9_method_8_code
def yX7_numberOf : MethodName := ⟨RX7, "numberOf", "(II)I"⟩
abbrev cX7_reads : ByteArray := prog_9_method_9_code
def yX7_reads : MethodName := ⟨RX7, "reads", "(IIIIII)I"⟩
abbrev cX7_looks : ByteArray := prog_9_method_10_code
def yX7_looks : MethodName := ⟨RX7, "looks", "(II)V"⟩
abbrev cX7_up : ByteArray := prog_9_method_11_code
def yX7_up : MethodName := ⟨RX7, "up", "(III)I"⟩
abbrev cX7_down : ByteArray := prog_9_method_12_code
def yX7_down : MethodName := ⟨RX7, "down", "(III)I"⟩
abbrev cX7_mirrored : ByteArray := prog_9_method_13_code
def yX7_mirrored : MethodName := ⟨RX7, "mirrored", "(II)I"⟩
abbrev cX7_isBelow : ByteArray := prog_9_method_14_code
def yX7_isBelow : MethodName := ⟨RX7, "isBelow", "(III)Z"⟩
abbrev cX7_becomes : ByteArray := prog_9_method_15_code
def yX7_becomes : MethodName := ⟨RX7, "becomes", "(II)V"⟩
abbrev cX7_isNode : ByteArray := prog_9_method_16_code
def yX7_isNode : MethodName := ⟨RX7, "isNode", "(I)Z"⟩
abbrev cX7_nodes : ByteArray := prog_9_method_17_code
def yX7_nodes : MethodName := ⟨RX7, "nodes", "(I)I"⟩
abbrev cX7_row : ByteArray := prog_9_method_18_code
def yX7_row : MethodName := ⟨RX7, "row", "(I)I"⟩
abbrev cX7_of : ByteArray := prog_9_method_19_code
def yX7_of : MethodName := ⟨RX7, "of", "(II)I"⟩
abbrev cX7_number : ByteArray := prog_9_method_20_code
def yX7_number : MethodName := ⟨RX7, "number", "(I)I"⟩
abbrev cX7_which : ByteArray := prog_9_method_21_code
def yX7_which : MethodName := ⟨RX7, "which", "()I"⟩
abbrev cX7_many : ByteArray := prog_9_method_22_code
def yX7_many : MethodName := ⟨RX7, "many", "(I)I"⟩
abbrev cX7_digits : ByteArray := prog_9_method_23_code
def yX7_digits : MethodName := ⟨RX7, "digits", "()I"⟩
abbrev cX7_turn : ByteArray := prog_9_method_24_code
def yX7_turn : MethodName := ⟨RX7, "turn", "(I)I"⟩
abbrev cX7_back : ByteArray := prog_9_method_25_code
def yX7_back : MethodName := ⟨RX7, "back", "(I)I"⟩
abbrev cX7_mayTurn : ByteArray := prog_9_method_26_code
def yX7_mayTurn : MethodName := ⟨RX7, "mayTurn", "(I)I"⟩
abbrev cX7_mirror : ByteArray := prog_9_method_27_code
def yX7_mirror : MethodName := ⟨RX7, "mirror", "()I"⟩
abbrev cX7_off : ByteArray := prog_9_method_28_code
def yX7_off : MethodName := ⟨RX7, "off", "()I"⟩
abbrev cX7_isShelf : ByteArray := prog_9_method_29_code
def yX7_isShelf : MethodName := ⟨RX7, "isShelf", "(I)Z"⟩
abbrev cX7_barOf : ByteArray := prog_9_method_30_code
def yX7_barOf : MethodName := ⟨RX7, "barOf", "(I)I"⟩
abbrev cX7_below : ByteArray := prog_9_method_31_code
def yX7_below : MethodName := ⟨RX7, "below", "(II)I"⟩
abbrev cX7_bound : ByteArray := prog_9_method_32_code
def yX7_bound : MethodName := ⟨RX7, "bound", "(IIZ)I"⟩
abbrev cX7_meet : ByteArray := prog_9_method_33_code
def yX7_meet : MethodName := ⟨RX7, "meet", "(II)I"⟩
abbrev cX7_meetAll : ByteArray := prog_9_method_34_code
def yX7_meetAll : MethodName := ⟨RX7, "meetAll", "(I)I"⟩
abbrev cX7_isBetween : ByteArray := prog_9_method_35_code
def yX7_isBetween : MethodName := ⟨RX7, "isBetween", "(III)Z"⟩
abbrev cX7_between : ByteArray := prog_9_method_36_code
def yX7_between : MethodName := ⟨RX7, "between", "(II)I"⟩
abbrev cX7_measure : ByteArray := prog_9_method_37_code
def yX7_measure : MethodName := ⟨RX7, "measure", "(IZ)V"⟩
abbrev cX7_firstTurn : ByteArray := prog_9_method_38_code
def yX7_firstTurn : MethodName := ⟨RX7, "firstTurn", "(I)I"⟩
abbrev cX7_way : ByteArray := prog_9_method_39_code
def yX7_way : MethodName := ⟨RX7, "way", "(II)I"⟩
abbrev cX7_longest : ByteArray := prog_9_method_40_code
def yX7_longest : MethodName := ⟨RX7, "longest", "(I)I"⟩
abbrev cX7_chain : ByteArray := prog_9_method_41_code
def yX7_chain : MethodName := ⟨RX7, "chain", "(II)I"⟩
abbrev cX7_mark : ByteArray := prog_9_method_42_code
def yX7_mark : MethodName := ⟨RX7, "mark", "(I)I"⟩
abbrev cX7_pairs : ByteArray := prog_9_method_43_code
def yX7_pairs : MethodName := ⟨RX7, "pairs", "(I)I"⟩
abbrev cX7_far : ByteArray := prog_9_method_44_code
def yX7_far : MethodName := ⟨RX7, "far", "(I)I"⟩
abbrev cX7_canopyOf : ByteArray := prog_9_method_45_code
def yX7_canopyOf : MethodName := ⟨RX7, "canopyOf", "(II)I"⟩
abbrev cX7_canopy : ByteArray := prog_9_method_46_code
def yX7_canopy : MethodName := ⟨RX7, "canopy", "()I"⟩
abbrev cX7_inClass : ByteArray := prog_9_method_47_code
def yX7_inClass : MethodName := ⟨RX7, "inClass", "(II)I"⟩
abbrev cX7_likeness : ByteArray := prog_9_method_48_code
def yX7_likeness : MethodName := ⟨RX7, "likeness", "(I)I"⟩
abbrev cX7_keep : ByteArray := prog_9_method_49_code
def yX7_keep : MethodName := ⟨RX7, "keep", "(I)I"⟩
abbrev cX7_lay : ByteArray := prog_9_method_50_code
def yX7_lay : MethodName := ⟨RX7, "lay", "(I)I"⟩
abbrev cX7_lose : ByteArray := prog_9_method_51_code
def yX7_lose : MethodName := ⟨RX7, "lose", "(I)I"⟩
abbrev cX7_over : ByteArray := prog_9_method_52_code
def yX7_over : MethodName := ⟨RX7, "over", "(I)I"⟩
abbrev cX7_under : ByteArray := prog_9_method_53_code
def yX7_under : MethodName := ⟨RX7, "under", "(I)I"⟩
abbrev cX7_shelf : ByteArray := prog_9_method_54_code
def yX7_shelf : MethodName := ⟨RX7, "shelf", "(II)I"⟩
abbrev cX7_isList : ByteArray := prog_9_method_55_code
def yX7_isList : MethodName := ⟨RX7, "isList", "(I)Z"⟩
abbrev cX7_makes : ByteArray := prog_9_method_56_code
def yX7_makes : MethodName := ⟨RX7, "makes", "(II)V"⟩
abbrev cX7_list : ByteArray := prog_9_method_57_code
def yX7_list : MethodName := ⟨RX7, "list", "(II)I"⟩
abbrev cX7_put : ByteArray := prog_9_method_58_code
def yX7_put : MethodName := ⟨RX7, "put", "(IIJ)I"⟩
abbrev cX7_get : ByteArray := prog_9_method_59_code
def yX7_get : MethodName := ⟨RX7, "get", "(II)J"⟩
abbrev cX7_play : ByteArray := prog_9_method_60_code
def yX7_play : MethodName := ⟨RX7, "play", "(I)I"⟩
abbrev cX7_film : ByteArray := prog_9_method_61_code
def yX7_film : MethodName := ⟨RX7, "film", "(II)I"⟩
abbrev cX7_feed : ByteArray := prog_9_method_62_code
def yX7_feed : MethodName := ⟨RX7, "feed", "(I)I"⟩
abbrev cX7_wipe : ByteArray := prog_9_method_63_code
def yX7_wipe : MethodName := ⟨RX7, "wipe", "()I"⟩
abbrev cX7_sign : ByteArray := prog_9_method_64_code
def yX7_sign : MethodName := ⟨RX7, "sign", "()I"⟩
abbrev cX7_sees : ByteArray := prog_9_method_65_code
def yX7_sees : MethodName := ⟨RX7, "sees", "(Z)Z"⟩
abbrev cX7_read : ByteArray := prog_9_method_66_code
def yX7_read : MethodName := ⟨RX7, "read", "()I"⟩
abbrev cX7_write : ByteArray := prog_9_method_67_code
def yX7_write : MethodName := ⟨RX7, "write", "(I)V"⟩
abbrev cX7_written : ByteArray := prog_9_method_68_code
def yX7_written : MethodName := ⟨RX7, "written", "(I)I"⟩
abbrev cX7_image : ByteArray := prog_9_method_69_code
def yX7_image : MethodName := ⟨RX7, "image", "()I"⟩
abbrev cX7_undo : ByteArray := prog_9_method_70_code
def yX7_undo : MethodName := ⟨RX7, "undo", "()I"⟩
abbrev cX7_count : ByteArray := prog_9_method_71_code
def yX7_count : MethodName := ⟨RX7, "count", "(I)I"⟩
def RL : String := "LeaningTreesLaw"
abbrev cL_law : ByteArray := code
abbrev vwCl : List vw_C := [(RX0, TX0, 2), (RX1, TX1, 2), (RX2, TX2, 3), (RX3, TX3, 2), (RX4, TX4, 8), (RX5, TX5, 9), (RX6, TX6, 10), (RX7, TX7, 35)]
end
section
/-! ===== BEGIN words of one list among another's, by their places ===== -/
theorem goodIn_r {big : List Cond} (ws : List Cond) (ps : List Nat) (hp : ws = ps.filterMap (fun i => big[i]?)) (h : ws.all goodWord = true) : GoodIn big ws := by
  intro w hw
  have h1 := List.all_eq_true.mp h w hw
  rw [hp] at hw
  obtain ⟨i, -, hi⟩ := List.mem_filterMap.mp hw
  have hm : w ∈ big := by first | exact List.mem_of_getElem? hi | exact List.getElem?_mem hi
  exact ⟨hm, good_of_word h1⟩
theorem goodIn_app {big a b : List Cond} (ha : GoodIn big a) (hb : GoodIn big b) : GoodIn big (a ++ b) := fun w h => (List.mem_append.mp h).elim (ha w) (hb w)
theorem goodIn_ca {big a b : List Cond} {c : Cond} (ha : GoodIn big (c :: a)) (hb : GoodIn big b) : GoodIn big (c :: (a ++ b)) := fun w h => (List.mem_cons.mp h).elim (fun e => ha w (List.mem_cons.mpr (Or.inl e))) (fun h => (List.mem_append.mp h).elim (fun h => ha w (List.mem_cons.mpr (Or.inr h))) (hb w))
theorem goodIn_sub {big ws : List Cond} (hm : ∀ w ∈ ws, w ∈ big) (h : ws.all goodWord = true) : GoodIn big ws := fun w hw => ⟨hm w hw, good_of_word (List.all_eq_true.mp h w hw)⟩
/-! ===== END ===== -/
end
section

def lw_gd : List Cond := lw_tbl.filter goodWord
/-! the memory: rows of ints, rows of longs, single ints; a world is a function of it -/
abbrev Mm : Type := (Nat → Nat → Int32) × (Nat → Nat → Int64) × (Nat → Int32)
def pu {α : Type} (f : Nat → α) : List (Nat × α) → Nat → α
  | [], k => f k
  | (i, v) :: l, k => if k = i then v else pu f l k
def rp {α : Type} : List (Nat × α) → Nat → α → List (Nat × α)
  | [], _, _ => []
  | (i, v) :: l, q, f => if i = q then (i, f) :: l else (i, v) :: rp l q f
def hk {α : Type} : List (Nat × α) → Nat → Bool
  | [], _ => false
  | (i, _) :: l, q => (i == q) || hk l q
def mg {α : Type} (l : List (Nat × α)) : List (Nat × α) → List (Nat × α)
  | [] => l
  | (q, f) :: r => rp (mg l r) q f
theorem pu_rp {α : Type} (g : Nat → α) (q : Nat) (f : α) : ∀ (l : List (Nat × α)), hk l q = true → pu (pu g l) [(q, f)] = pu g (rp l q f)
  | [], h => by simp [hk] at h
  | (i, v) :: l, h => by
    funext k
    by_cases hi : i = q
    · subst hi
      simp only [pu, rp, if_true]
      by_cases hk1 : k = i <;> simp [hk1, pu]
    · have hq : hk l q = true := by simpa [hk, hi] using h
      have ih := congrFun (pu_rp g q f l hq) k
      simp only [pu] at ih
      simp only [pu, rp, if_neg hi]
      rw [← ih]
      by_cases hk1 : k = q
      · have : k ≠ i := fun e => hi (e.symm.trans hk1)
        simp [hk1, Ne.symm hi]
      · simp [hk1]
theorem hk_rp {α : Type} (q : Nat) (f : α) (z : Nat) : ∀ (l : List (Nat × α)), hk (rp l q f) z = hk l z
  | [] => rfl
  | (i, v) :: l => by
    by_cases hi : i = q
    · simp [rp, hi, hk]
    · simp [rp, hi, hk, hk_rp q f z l]
theorem hk_mg {α : Type} (l : List (Nat × α)) (z : Nat) : ∀ (r : List (Nat × α)), hk (mg l r) z = hk l z
  | [] => rfl
  | (q, f) :: r => by rw [mg, hk_rp, hk_mg l z r]
theorem pu_mg {α : Type} (g : Nat → α) (l : List (Nat × α)) : ∀ (r : List (Nat × α)), r.all (fun e => hk l e.1) = true → pu (pu g l) r = pu g (mg l r)
  | [], _ => by funext k; rfl
  | (q, f) :: r, h => by
    simp only [List.all_cons, Bool.and_eq_true] at h
    have ih := pu_mg g l r h.2
    rw [mg, ← pu_rp g q f (mg l r) (by rw [hk_mg]; exact h.1), ← ih]
    funext k
    rfl
theorem pu_self {α : Type} (g : Nat → α) : ∀ (ks : List Nat), pu g (ks.map fun k => (k, g k)) = g
  | [] => by funext k; rfl
  | i :: ks => by
    funext k
    have ih := congrFun (pu_self g ks) k
    simp only [List.map_cons, pu]
    by_cases h : k = i
    · simp [h]
    · rw [if_neg h]; exact ih
def tyL (ct : Nat → ClassId) : List (ClassId × FieldType) := [(ct 0, .int), (ct 1, .long), (ct 2, .boolean), (ct 3, .array .long)]
def fiL : List Int32 := [0, 1, 2, 4, 9, 23, 65, 197, 626]
def fiF (j : Nat) : Int32 := fiL.getD j 0
def FS (tF : Nat) (A : Nat → Prop) (U : State) (H : Heap) : Prop := va_Z "LeaningTrees$Forest" "FIRST" "[I" (.ref tF) A U H ∧ va_T .int tF 9 (fun j => .int (fiF j)) A U H
/-! what a method's text is, as a function -/
def rd {α : Type} (n : Nat) (f : Nat → α) (i : Int32) : Option α := if i < 0 ∨ n ≤ i.toNatClampNeg then none else some (f i.toNatClampNeg)
def wr (n : Nat) (f : Nat → Int32) (i x : Int32) : Option (Nat → Int32) := if i < 0 ∨ n ≤ i.toNatClampNeg then none else some (upd f i.toNatClampNeg x)
def wrL (n : Nat) (f : Nat → Int64) (i : Int32) (x : Int64) : Option (Nat → Int64) := if i < 0 ∨ n ≤ i.toNatClampNeg then none else some (vp_updL f i.toNatClampNeg x)
def dvo (x y : Int32) : Option Int32 := if y = 0 then none else some (x / y)
def rmo (x y : Int32) : Option Int32 := if y = 0 then none else some (x - x / y * y)
def zro (x : Int32) : Option Int32 := if x = 0 ∨ x = 1 then some x else none
def it {X Y : Type} (B : X → Option (X ⊕ Y)) : Nat → X → Option Y
  | 0, _ => none
  | n + 1, x => (B x).bind (Sum.elim (it B n) some)
def FU : Nat := 100000000
theorem rd_ok {α : Type} {n : Nat} {f : Nat → α} {i : Int32} {v : α} (h : rd n f i = some v) : vp_in i n ∧ f i.toNatClampNeg = v := by
  unfold rd at h
  split at h
  · cases h
  · next q => exact ⟨q, Option.some.inj h⟩
theorem wr_ok {n : Nat} {f g : Nat → Int32} {i x : Int32} (h : wr n f i x = some g) : vp_in i n ∧ upd f i.toNatClampNeg x = g := by
  unfold wr at h
  split at h
  · cases h
  · next q => exact ⟨q, Option.some.inj h⟩
theorem wrL_ok {n : Nat} {f g : Nat → Int64} {i : Int32} {x : Int64} (h : wrL n f i x = some g) : vp_in i n ∧ vp_updL f i.toNatClampNeg x = g := by
  unfold wrL at h
  split at h
  · cases h
  · next q => exact ⟨q, Option.some.inj h⟩
theorem dvo_ok {x y v : Int32} (h : dvo x y = some v) : ¬ y = 0 ∧ x / y = v := by
  unfold dvo at h
  split at h
  · cases h
  · next q => exact ⟨q, Option.some.inj h⟩
theorem rmo_ok {x y v : Int32} (h : rmo x y = some v) : ¬ y = 0 ∧ x - x / y * y = v := by
  unfold rmo at h
  split at h
  · cases h
  · next q => exact ⟨q, Option.some.inj h⟩
theorem zro_ok {x v : Int32} (h : zro x = some v) : x = v ∧ narrow .boolean (.int v) = .int v := by
  unfold zro at h
  split at h
  · next q =>
    cases h
    exact ⟨rfl, by rcases q with q | q <;> subst q <;> rfl⟩
  · cases h
theorem ob {α β : Type} {o : Option α} {f : α → Option β} {b : β} (h : o.bind f = some b) : ∃ a, o = some a ∧ f a = some b := by
  cases o with
  | none => cases h
  | some a => exact ⟨a, rfl, h⟩
theorem it_Z {X Y : Type} {B : X → Option (X ⊕ Y)} {Zh : X → Prop} {Ze : Y → Prop} (hB : ∀ x s, B x = some s → Sum.elim Zh Ze s → Zh x) : ∀ (n : Nat) (x : X) (y : Y), it B n x = some y → Ze y → Zh x
  | 0, x, y, h, _ => by cases h
  | n + 1, x, y, h, hy => by
    obtain ⟨s, hs, h⟩ := ob h
    refine hB x s hs ?_
    cases s with
    | inl x' => exact it_Z hB n x' y h hy
    | inr y' => cases h; exact hy
/-! the run of a method: program, launch, env, room, start, method, arguments, below, method's record, code, D, world, free cells, cells, slots, end -/
abbrev Rx : Type := Program × Launch × Env × Room × State × MethodId × Array Value × List Frame × Method × Code × va_G × (Mm → va_W) × (Nat → Prop) × Nat × Nat × (State → Prop)
abbrev kp (κ : Rx) : Program := κ.1
abbrev kl (κ : Rx) : Launch := κ.2.1
abbrev ke (κ : Rx) : Env := κ.2.2.1
abbrev kR (κ : Rx) : Room := κ.2.2.2.1
abbrev ks (κ : Rx) : State := κ.2.2.2.2.1
abbrev km (κ : Rx) : MethodId := κ.2.2.2.2.2.1
abbrev ka (κ : Rx) : Array Value := κ.2.2.2.2.2.2.1
abbrev kb (κ : Rx) : List Frame := κ.2.2.2.2.2.2.2.1
abbrev kme (κ : Rx) : Method := κ.2.2.2.2.2.2.2.2.1
abbrev kc (κ : Rx) : Code := κ.2.2.2.2.2.2.2.2.2.1
abbrev kD (κ : Rx) : va_G := κ.2.2.2.2.2.2.2.2.2.2.1
abbrev kw (κ : Rx) : Mm → va_W := κ.2.2.2.2.2.2.2.2.2.2.2.1
abbrev kA (κ : Rx) : Nat → Prop := κ.2.2.2.2.2.2.2.2.2.2.2.2.1
abbrev kn (κ : Rx) : Nat := κ.2.2.2.2.2.2.2.2.2.2.2.2.2.1
abbrev ko (κ : Rx) : Nat := κ.2.2.2.2.2.2.2.2.2.2.2.2.2.2.1
abbrev kQ (κ : Rx) : State → Prop := κ.2.2.2.2.2.2.2.2.2.2.2.2.2.2.2
abbrev Wk (κ : Rx) (H : Heap) (locs : List Loc) (g : JFrame) : Prop := W (kp κ) (kl κ) (ke κ) (kR κ) (ks κ) (km κ) (ka κ) (kb κ) (kme κ) (kc κ) H locs (kn κ) (ko κ) (kQ κ) g
def Zj (κ : Rx) (nL pc : Nat) (lv : List (Nat × Value)) (st : List Value) (M : Mm) : Prop :=
  ∀ (H : Heap) (locs : List Loc) (ls : Array Slot), va_P (kD κ) vwCl (kw κ M) H → va_D (kA κ) (kw κ M) → va_S (kA κ) (ks κ).heap H locs → lv_has ls nL lv → Wk κ H locs (F0 (km κ) pc ls st)
def CX (κ : Rx) (ct : Nat → ClassId) (tF : Nat) (cc : ByteArray) (nL : Nat) (own : String) : Prop :=
  (kp κ).tables.exec = Jvm.exec ∧ (kc κ).code = cc ∧ (kc κ).maxLocals = nL ∧ (ks κ).vm.findClass own = some (km κ).cls ∧ (∀ w ∈ lw_gd, w.before (ka κ) (ks κ) = true) ∧ va_K (kD κ) vwCl (tyL ct) (ks κ) ∧ FS tF (kA κ) (ks κ) (ks κ).heap
/-- the end of a method that answers an int, a long, nothing -/
def ZI (κ : Rx) (cc : ByteArray) (rt : FieldType) (r : Int32) (M : Mm) : Prop :=
  ∀ (H : Heap) (locs : List Loc) (ls : Array Slot) (pc : Nat), va_P (kD κ) vwCl (kw κ M) H → va_D (kA κ) (kw κ M) → va_S (kA κ) (ks κ).heap H locs → decode cc pc = .ok (.ireturn, 1) → narrow rt (.int r) = .int r → Wk κ H locs (F0 (km κ) pc ls [.int r])
def ZL (κ : Rx) (cc : ByteArray) (r : Int64) (M : Mm) : Prop :=
  ∀ (H : Heap) (locs : List Loc) (ls : Array Slot) (pc : Nat), va_P (kD κ) vwCl (kw κ M) H → va_D (kA κ) (kw κ M) → va_S (kA κ) (ks κ).heap H locs → decode cc pc = .ok (.lreturn, 1) → Wk κ H locs (F0 (km κ) pc ls [.long r])
def ZV (κ : Rx) (cc : ByteArray) (M : Mm) : Prop :=
  ∀ (H : Heap) (locs : List Loc) (ls : Array Slot) (pc : Nat), va_P (kD κ) vwCl (kw κ M) H → va_D (kA κ) (kw κ M) → va_S (kA κ) (ks κ).heap H locs → decode cc pc = .ok (.return_, 1) → Wk κ H locs (F0 (km κ) pc ls [])
/-- what a call of a method of ours needs and gives -/
def CP (D : va_G) (ct : Nat → ClassId) (tF : Nat) (wOf : Mm → va_W) (A : Nat → Prop) (M : Mm) (U : State) : Prop := va_P D vwCl (wOf M) U.heap ∧ va_K D vwCl (tyL ct) U ∧ va_D A (wOf M) ∧ FS tF A U U.heap
def CtI (l : Launch) (y : MethodName) (cc : ByteArray) (nL : Nat) (rt : FieldType) (rm : Room) (D : va_G) (ct : Nat → ClassId) (tF : Nat) (wOf : Mm → va_W) (as : List Value) (M : Mm) (r : Int32) (M' : Mm) : Prop :=
  ∀ A : Nat → Prop, Met l y (.code y cc nL (some rt) :: lw_gd) rm (va_Pc as (CP D ct tF wOf A M)) (va_Qi (fun r' (_ : Unit) => r' = r) (fun _ t => va_P D vwCl (wOf M') t.heap ∧ va_D A (wOf M')) A) 0 0 A
def CtL (l : Launch) (y : MethodName) (cc : ByteArray) (nL : Nat) (rm : Room) (D : va_G) (ct : Nat → ClassId) (tF : Nat) (wOf : Mm → va_W) (as : List Value) (M : Mm) (r : Int64) (M' : Mm) : Prop :=
  ∀ A : Nat → Prop, Met l y (.code y cc nL (some .long) :: lw_gd) rm (va_Pc as (CP D ct tF wOf A M)) (va_Ql (fun r' (_ : Unit) => r' = r) (fun _ t => va_P D vwCl (wOf M') t.heap ∧ va_D A (wOf M')) A) 0 0 A
def CtV (l : Launch) (y : MethodName) (cc : ByteArray) (nL : Nat) (rm : Room) (D : va_G) (ct : Nat → ClassId) (tF : Nat) (wOf : Mm → va_W) (as : List Value) (M : Mm) (M' : Mm) : Prop :=
  ∀ A : Nat → Prop, Met l y (.code y cc nL none :: lw_gd) rm (va_Pc as (CP D ct tF wOf A M)) (va_Qv (fun (_ : Unit) => True) (fun _ t => va_P D vwCl (wOf M') t.heap ∧ va_D A (wOf M')) A) 0 0 A
theorem CP_blind (D : va_G) (ct : Nat → ClassId) (tF : Nat) (wOf : Mm → va_W) (A : Nat → Prop) (M : Mm) (as : List Value) : FrameBlind (va_Pc as (CP D ct tF wOf A M)) := by
  intro a U g mk q
  obtain ⟨q0, qP, qK, qD, q1, q2⟩ := q
  exact ⟨q0, qP, va_K.moved (u := U) (U := U.calling g mk a) (Vm.Alike.refl U.vm) qK, qD, va_Z.moved (u := U) (U := U.calling g mk a) (Vm.Alike.refl U.vm) q1, va_T.moved (u := U) (U := U.calling g mk a) (Vm.Alike.refl U.vm) q2⟩
theorem CP_at {κ : Rx} {ct : Nat → ClassId} {tF : Nat} {cc : ByteArray} {nL : Nat} {own : String} (X : CX κ ct tF cc nL own) {H : Heap} {locs : List Loc} {M : Mm} (hP : va_P (kD κ) vwCl (kw κ M) H) (hD : va_D (kA κ) (kw κ M)) (hS : va_S (kA κ) (ks κ).heap H locs) (U : State) (hU : U.heap = H) (hW : (ks κ).WarmedH U.vm) : CP (kD κ) ct tF (kw κ) (kA κ) M U := by
  subst hU
  have hk : ∀ a : Nat, a < (ks κ).heap.size → ¬ kA κ a → U.heap[a]? = (ks κ).heap[a]? := fun a h1 h2 => hS.2.1 a h1 h2
  exact ⟨hP, va_K.moved hW.alike X.2.2.2.2.2.1, hD, (va_Z.moved hW.alike X.2.2.2.2.2.2.1).kept hk, (va_T.moved hW.alike X.2.2.2.2.2.2.2).kept hk⟩
theorem metI {l : Launch} {y : MethodName} {cc : ByteArray} {nL : Nat} {rt : FieldType} {rm : Room} {D : va_G} {ct : Nat → ClassId} {tF : Nat} {wOf : Mm → va_W} {as : List Value} {M M' : Mm} {r : Int32} (hy : plainName y.cls = true) (hlen : (lg_sl as).length ≤ nL)
    (body : ∀ κ : Rx, CX κ ct tF cc nL y.cls → kl κ = l → kR κ = rm → kD κ = D → kw κ = wOf → ZI κ cc rt r M' → Zj κ nL 0 (lv_args 0 as) [] M) : CtI l y cc nL rt rm D ct tF wOf as M r M' := by
  intro A
  refine Met.ofW (cc := cc) (maxL := nL) (ret := some rt) hy rfl ?_
  intro p e s m args below meth c s₁ B hml hv
  obtain ⟨rfl, hP, hK, hD, hF⟩ := hv
  have hx := B.exec
  have hb := B.bytes
  have hr := B.returns
  have hts := atoms_spec (ws := .code y cc nL (some rt) :: lw_gd) B.pre
  have hown : s.vm.findClass y.cls = some m.cls := findClass_of_methodNamed B.named
  have hlocks := B.notSynchronized
  have hl := lv_entry as (n := nL) hlen
  rw [lg_entry_eq]
  exact body (p, l, e, rm, s, m, as.toArray, below, meth, c, D, wOf, A, 0, 0, MQ below _ as.toArray s 0 0 A) ⟨hx, hb, hml, hown, fun w h => hts w (List.mem_cons_of_mem _ h), hK, hF⟩ rfl rfl rfl rfl
    (fun H locs ls pc hP hD hS hd hn => W.zret hx hb hr hn (fun t ht hW => ⟨⟨r, (), rfl, rfl, by rw [ht]; exact hP, hD⟩, hS.F ht⟩) hS.2.2 hd) s.heap [] _ hP hD va_S.rf hl
theorem metL {l : Launch} {y : MethodName} {cc : ByteArray} {nL : Nat} {rm : Room} {D : va_G} {ct : Nat → ClassId} {tF : Nat} {wOf : Mm → va_W} {as : List Value} {M M' : Mm} {r : Int64} (hy : plainName y.cls = true) (hlen : (lg_sl as).length ≤ nL)
    (body : ∀ κ : Rx, CX κ ct tF cc nL y.cls → kl κ = l → kR κ = rm → kD κ = D → kw κ = wOf → ZL κ cc r M' → Zj κ nL 0 (lv_args 0 as) [] M) : CtL l y cc nL rm D ct tF wOf as M r M' := by
  intro A
  refine Met.ofW (cc := cc) (maxL := nL) (ret := some .long) hy rfl ?_
  intro p e s m args below meth c s₁ B hml hv
  obtain ⟨rfl, hP, hK, hD, hF⟩ := hv
  have hx := B.exec
  have hb := B.bytes
  have hr := B.returns
  have hts := atoms_spec (ws := .code y cc nL (some .long) :: lw_gd) B.pre
  have hown : s.vm.findClass y.cls = some m.cls := findClass_of_methodNamed B.named
  have hlocks := B.notSynchronized
  have hl := lv_entry as (n := nL) hlen
  rw [lg_entry_eq]
  exact body (p, l, e, rm, s, m, as.toArray, below, meth, c, D, wOf, A, 0, 0, MQ below _ as.toArray s 0 0 A) ⟨hx, hb, hml, hown, fun w h => hts w (List.mem_cons_of_mem _ h), hK, hF⟩ rfl rfl rfl rfl
    (fun H locs ls pc hP hD hS hd => W.lret hx hb hr (fun t ht hW => ⟨⟨r, (), rfl, rfl, by rw [ht]; exact hP, hD⟩, hS.F ht⟩) hS.2.2 hd) s.heap [] _ hP hD va_S.rf hl
theorem metV {l : Launch} {y : MethodName} {cc : ByteArray} {nL : Nat} {rm : Room} {D : va_G} {ct : Nat → ClassId} {tF : Nat} {wOf : Mm → va_W} {as : List Value} {M M' : Mm} (hy : plainName y.cls = true) (hlen : (lg_sl as).length ≤ nL)
    (body : ∀ κ : Rx, CX κ ct tF cc nL y.cls → kl κ = l → kR κ = rm → kD κ = D → kw κ = wOf → ZV κ cc M' → Zj κ nL 0 (lv_args 0 as) [] M) : CtV l y cc nL rm D ct tF wOf as M M' := by
  intro A
  refine Met.ofW (cc := cc) (maxL := nL) (ret := none) hy rfl ?_
  intro p e s m args below meth c s₁ B hml hv
  obtain ⟨rfl, hP, hK, hD, hF⟩ := hv
  have hx := B.exec
  have hb := B.bytes
  have hr := B.returns
  have hts := atoms_spec (ws := .code y cc nL none :: lw_gd) B.pre
  have hown : s.vm.findClass y.cls = some m.cls := findClass_of_methodNamed B.named
  have hlocks := B.notSynchronized
  have hl := lv_entry as (n := nL) hlen
  rw [lg_entry_eq]
  exact body (p, l, e, rm, s, m, as.toArray, below, meth, c, D, wOf, A, 0, 0, MQ below _ as.toArray s 0 0 A) ⟨hx, hb, hml, hown, fun w h => hts w (List.mem_cons_of_mem _ h), hK, hF⟩ rfl rfl rfl rfl
    (fun H locs ls pc hP hD hS hd => W.vret hx hb hr (fun t ht hW => ⟨⟨(), rfl, trivial, by rw [ht]; exact hP, hD⟩, hS.F ht⟩) hS.2.2 hd) s.heap [] _ hP hD va_S.rf hl
/-! words -/
theorem lw_gi : GoodIn lw_gd lw_gd := fun w h => ⟨h, good_of_word (List.mem_filter.mp h).2⟩
theorem gd {w : Cond} (h : w ∈ tables_1) (hg : goodWord w = true) : w ∈ lw_gd := List.mem_filter.mpr ⟨List.mem_append_right _ h, hg⟩
theorem gp {w : Cond} (h : w ∈ k2_sels lw_privs) (hg : goodWord w = true) : w ∈ lw_gd := List.mem_filter.mpr ⟨List.mem_append_left _ h, hg⟩
theorem lw_g {w : Cond} (h : w ∈ lw_gd) : w ∈ lw_gd ∧ ((w.onTables && w.keeps) = true ∨ ∃ ty, w = .arrayClass ty) := lw_gi w h
/-- an own method of an object: its words -/
def MV (y : MethodName) (cc : ByteArray) (nL : Nat) (ret : Option FieldType) (C : String) (n : Nat) : Prop :=
  (Cond.instanceMethod y ∈ lw_gd ∧ Cond.selects C y y ∈ lw_gd ∧ Cond.initialized C ∈ lw_gd ∧ Cond.code y cc nL ret ∈ lw_gd) ∧ (y.cls = C ∧ y.cls ≠ "java/lang/invoke/MethodHandle" ∧ y.cls ≠ "java/lang/invoke/VarHandle" ∧ (parseMethodDescriptor y.desc).map (fun d => d.parameters.length) = some n)
def MS (y : MethodName) (cc : ByteArray) (nL : Nat) (ret : Option FieldType) (n : Nat) : Prop :=
  (Cond.static y ∈ lw_gd ∧ Cond.initialized y.cls ∈ lw_gd ∧ Cond.code y cc nL ret ∈ lw_gd) ∧ (y.cls ≠ "java/lang/invoke/MethodHandle" ∧ y.cls ≠ "java/lang/invoke/VarHandle" ∧ (parseMethodDescriptor y.desc).map (fun d => d.parameters.length) = some n)
theorem lw_gc {w : Cond} (h : w ∈ lw_gd) : GoodIn lw_gd (w :: lw_gd) := fun v hv => by
  rcases List.mem_cons.mp hv with rfl | h2
  · exact lw_g h
  · exact lw_g h2
theorem lw_gV {own C : String} {idx : Nat} {y : MethodName} {cc : ByteArray} {nL : Nat} {ret : Option FieldType} {n : Nat} (hm : Cond.methodLink own idx y ∈ lw_gd) (hv : MV y cc nL ret C n) : GoodIn lw_gd (wsV own idx C y (.code y cc nL ret :: lw_gd)) := by
  obtain ⟨⟨h1, h2, h3, h4⟩, -⟩ := hv
  intro v hv
  unfold wsV at hv
  rcases List.mem_append.mp hv with h | h
  · simp only [List.mem_cons, List.not_mem_nil, or_false] at h
    rcases h with rfl | rfl | rfl | rfl
    · exact lw_g hm
    · exact lw_g h1
    · exact lw_g h2
    · exact lw_g h3
  · exact lw_gc h4 v h
theorem lw_gS {own : String} {idx : Nat} {y : MethodName} {cc : ByteArray} {nL : Nat} {ret : Option FieldType} {n : Nat} (hm : Cond.methodLink own idx y ∈ lw_gd) (hv : MS y cc nL ret n) : GoodIn lw_gd (va_wsS own idx y (.code y cc nL ret :: lw_gd)) := by
  obtain ⟨⟨h1, h2, h3⟩, -⟩ := hv
  intro v hv
  unfold va_wsS at hv
  rcases List.mem_append.mp hv with h | h
  · simp only [List.mem_cons, List.not_mem_nil, or_false] at h
    rcases h with rfl | rfl | rfl
    · exact lw_g hm
    · exact lw_g h1
    · exact lw_g h2
  · exact lw_gc h3 v h
section ROWS
variable {κ : Rx} {ct : Nat → ClassId} {tF : Nat} {cc : ByteArray} {nL : Nat} {own : String} {pc : Nat} {lv lv' : List (Nat × Value)} {st : List Value} {M M' : Mm}

theorem z_iconst (X : CX κ ct tF cc nL own) {n : Int} {v : Int32} (hd : decode cc pc = .ok (.iconst n, 1)) (hv : Int32.ofInt n = v) (k : Zj κ nL (pc + 1) lv (.int v :: st) M) : Zj κ nL pc lv (st) M := by
  intro H locs ls hP hD hS hl
  exact lv_iconst X.1 X.2.1 hd hv (k H locs ls hP hD hS hl)
theorem z_bipush (X : CX κ ct tF cc nL own) {n : Int} {v : Int32} (hd : decode cc pc = .ok (.bipush n, 2)) (hv : (Int8.ofInt n).toInt32 = v) (k : Zj κ nL (pc + 2) lv (.int v :: st) M) : Zj κ nL pc lv (st) M := by
  intro H locs ls hP hD hS hl
  exact lv_bipush X.1 X.2.1 hd hv (k H locs ls hP hD hS hl)
theorem z_sipush (X : CX κ ct tF cc nL own) {n : Int} {v : Int32} (hd : decode cc pc = .ok (.sipush n, 3)) (hv : (Int16.ofInt n).toInt32 = v) (k : Zj κ nL (pc + 3) lv (.int v :: st) M) : Zj κ nL pc lv (st) M := by
  intro H locs ls hP hD hS hl
  exact lv_sipush X.1 X.2.1 hd hv (k H locs ls hP hD hS hl)
theorem z_lconst (X : CX κ ct tF cc nL own) {n : Fin 2} {v : Int64} (hd : decode cc pc = .ok (.lconst n, 1)) (hv : Int64.ofNat (n : Nat) = v) (k : Zj κ nL (pc + 1) lv (.long v :: st) M) : Zj κ nL pc lv (st) M := by
  intro H locs ls hP hD hS hl
  exact lv_lconst X.1 X.2.1 hd hv (k H locs ls hP hD hS hl)
theorem z_ldc (X : CX κ ct tF cc nL own) {index : Nat} {v : Int32} (hc : Jvm.Cond.constant own index v ∈ lw_gd) (hd : decode cc pc = .ok (.ldc index, 2)) (k : Zj κ nL (pc + 2) lv (.int v :: st) M) : Zj κ nL pc lv (st) M := by
  intro H locs ls hP hD hS hl
  exact lv_ldc X.1 X.2.1 X.2.2.2.1 (X.2.2.2.2.1 _ hc) hd (k H locs ls hP hD hS hl)
theorem z_ldcw (X : CX κ ct tF cc nL own) {index : Nat} {v : Int32} (hc : Jvm.Cond.constant own index v ∈ lw_gd) (hd : decode cc pc = .ok (.ldc_w index, 3)) (k : Zj κ nL (pc + 3) lv (.int v :: st) M) : Zj κ nL pc lv (st) M := by
  intro H locs ls hP hD hS hl
  exact lv_ldcw X.1 X.2.1 X.2.2.2.1 (X.2.2.2.2.1 _ hc) hd (k H locs ls hP hD hS hl)
theorem z_ldc2 (X : CX κ ct tF cc nL own) {index : Nat} {v : Int64} (hc : Jvm.Cond.constantLong own index v ∈ lw_gd) (hd : decode cc pc = .ok (.ldc2_w index, 3)) (k : Zj κ nL (pc + 3) lv (.long v :: st) M) : Zj κ nL pc lv (st) M := by
  intro H locs ls hP hD hS hl
  exact lv_ldc2 X.1 X.2.1 X.2.2.2.1 (X.2.2.2.2.1 _ hc) hd (k H locs ls hP hD hS hl)
theorem z_iload_n (X : CX κ ct tF cc nL own) {n : Fin 4} {i : Nat} {x : Int32} (hd : decode cc pc = .ok (.iload_n n, 1)) (j : Nat) (hi : (n : Nat) = i) (hj : lv[j]? = some (i, .int x)) (k : Zj κ nL (pc + 1) lv (.int x :: st) M) : Zj κ nL pc lv (st) M := by
  intro H locs ls hP hD hS hl
  exact lv_iload_n X.1 X.2.1 hd hi (lv_at hl j hj) (k H locs ls hP hD hS hl)
theorem z_iload (X : CX κ ct tF cc nL own) {i : Nat} {x : Int32} (hd : decode cc pc = .ok (.iload i, 2)) (j : Nat) (hj : lv[j]? = some (i, .int x)) (k : Zj κ nL (pc + 2) lv (.int x :: st) M) : Zj κ nL pc lv (st) M := by
  intro H locs ls hP hD hS hl
  exact lv_iload X.1 X.2.1 hd (lv_at hl j hj) (k H locs ls hP hD hS hl)
theorem z_istore_n (X : CX κ ct tF cc nL own) {n : Fin 4} {i : Nat} {x : Int32} (hd : decode cc pc = .ok (.istore_n n, 1)) (hi : (n : Nat) = i) (hn : i < nL) (hv : (i, Value.int x) :: lv.filter (fun q => !(q.1 == i) && !(q.1 + 1 == i && q.2.category == 2)) = lv') (k : Zj κ nL (pc + 1) lv' (st) M) : Zj κ nL pc lv (.int x :: st) M := by
  intro H locs ls hP hD hS hl
  exact lv_istore_n X.1 X.2.1 hd hi hl hn hv (fun ls hl => (k H locs ls hP hD hS hl))
theorem z_istore (X : CX κ ct tF cc nL own) {i : Nat} {x : Int32} (hd : decode cc pc = .ok (.istore i, 2)) (hn : i < nL) (hv : (i, Value.int x) :: lv.filter (fun q => !(q.1 == i) && !(q.1 + 1 == i && q.2.category == 2)) = lv') (k : Zj κ nL (pc + 2) lv' (st) M) : Zj κ nL pc lv (.int x :: st) M := by
  intro H locs ls hP hD hS hl
  exact lv_istore X.1 X.2.1 hd hl hn hv (fun ls hl => (k H locs ls hP hD hS hl))
theorem z_lload_n (X : CX κ ct tF cc nL own) {n : Fin 4} {i : Nat} {x : Int64} (hd : decode cc pc = .ok (.lload_n n, 1)) (j : Nat) (hi : (n : Nat) = i) (hj : lv[j]? = some (i, .long x)) (k : Zj κ nL (pc + 1) lv (.long x :: st) M) : Zj κ nL pc lv (st) M := by
  intro H locs ls hP hD hS hl
  exact lv_lload_n X.1 X.2.1 hd hi (lv_at hl j hj) (k H locs ls hP hD hS hl)
theorem z_lload (X : CX κ ct tF cc nL own) {i : Nat} {x : Int64} (hd : decode cc pc = .ok (.lload i, 2)) (j : Nat) (hj : lv[j]? = some (i, .long x)) (k : Zj κ nL (pc + 2) lv (.long x :: st) M) : Zj κ nL pc lv (st) M := by
  intro H locs ls hP hD hS hl
  exact lv_lload X.1 X.2.1 hd (lv_at hl j hj) (k H locs ls hP hD hS hl)
theorem z_lstore_n (X : CX κ ct tF cc nL own) {n : Fin 4} {i : Nat} {x : Int64} (hd : decode cc pc = .ok (.lstore_n n, 1)) (hi : (n : Nat) = i) (hn : i + 1 < nL) (hv : (i, Value.long x) :: lv.filter (fun q => !(q.1 == i) && (!(q.1 == i + 1) && !(q.1 + 1 == i && q.2.category == 2))) = lv') (k : Zj κ nL (pc + 1) lv' (st) M) : Zj κ nL pc lv (.long x :: st) M := by
  intro H locs ls hP hD hS hl
  exact lv_lstore_n X.1 X.2.1 hd hi hl hn hv (fun ls hl => (k H locs ls hP hD hS hl))
theorem z_lstore (X : CX κ ct tF cc nL own) {i : Nat} {x : Int64} (hd : decode cc pc = .ok (.lstore i, 2)) (hn : i + 1 < nL) (hv : (i, Value.long x) :: lv.filter (fun q => !(q.1 == i) && (!(q.1 == i + 1) && !(q.1 + 1 == i && q.2.category == 2))) = lv') (k : Zj κ nL (pc + 2) lv' (st) M) : Zj κ nL pc lv (.long x :: st) M := by
  intro H locs ls hP hD hS hl
  exact lv_lstore X.1 X.2.1 hd hl hn hv (fun ls hl => (k H locs ls hP hD hS hl))
theorem z_aload_n (X : CX κ ct tF cc nL own) {n : Fin 4} {i : Nat} {x : Nat} (hd : decode cc pc = .ok (.aload_n n, 1)) (j : Nat) (hi : (n : Nat) = i) (hj : lv[j]? = some (i, .ref x)) (k : Zj κ nL (pc + 1) lv (.ref x :: st) M) : Zj κ nL pc lv (st) M := by
  intro H locs ls hP hD hS hl
  exact lv_aload_n X.1 X.2.1 hd hi (lv_at hl j hj) (k H locs ls hP hD hS hl)
theorem z_aload (X : CX κ ct tF cc nL own) {i : Nat} {x : Nat} (hd : decode cc pc = .ok (.aload i, 2)) (j : Nat) (hj : lv[j]? = some (i, .ref x)) (k : Zj κ nL (pc + 2) lv (.ref x :: st) M) : Zj κ nL pc lv (st) M := by
  intro H locs ls hP hD hS hl
  exact lv_aload X.1 X.2.1 hd (lv_at hl j hj) (k H locs ls hP hD hS hl)
theorem z_astore_n (X : CX κ ct tF cc nL own) {n : Fin 4} {i : Nat} {x : Nat} (hd : decode cc pc = .ok (.astore_n n, 1)) (hi : (n : Nat) = i) (hn : i < nL) (hv : (i, Value.ref x) :: lv.filter (fun q => !(q.1 == i) && !(q.1 + 1 == i && q.2.category == 2)) = lv') (k : Zj κ nL (pc + 1) lv' (st) M) : Zj κ nL pc lv (.ref x :: st) M := by
  intro H locs ls hP hD hS hl
  exact lv_astore_n X.1 X.2.1 hd hi hl hn hv (fun ls hl => (k H locs ls hP hD hS hl))
theorem z_astore (X : CX κ ct tF cc nL own) {i : Nat} {x : Nat} (hd : decode cc pc = .ok (.astore i, 2)) (hn : i < nL) (hv : (i, Value.ref x) :: lv.filter (fun q => !(q.1 == i) && !(q.1 + 1 == i && q.2.category == 2)) = lv') (k : Zj κ nL (pc + 2) lv' (st) M) : Zj κ nL pc lv (.ref x :: st) M := by
  intro H locs ls hP hD hS hl
  exact lv_astore X.1 X.2.1 hd hl hn hv (fun ls hl => (k H locs ls hP hD hS hl))
theorem z_iinc (X : CX κ ct tF cc nL own) {i : Nat} {n : Int} {x v : Int32} (hd : decode cc pc = .ok (.iinc i n, 3)) (j : Nat) (hj : lv[j]? = some (i, .int x)) (hx : x + Int32.ofInt n = v) (hn : i < nL) (hv : (i, Value.int v) :: lv.filter (fun q => !(q.1 == i) && !(q.1 + 1 == i && q.2.category == 2)) = lv') (k : Zj κ nL (pc + 3) lv' (st) M) : Zj κ nL pc lv (st) M := by
  intro H locs ls hP hD hS hl
  exact lv_iinc X.1 X.2.1 hd hl hj hx hn hv (fun ls hl => (k H locs ls hP hD hS hl))
theorem z_iadd (X : CX κ ct tF cc nL own) {x y : Int32} (hd : decode cc pc = .ok (.iadd, 1)) (k : Zj κ nL (pc + 1) lv (.int (x + y) :: st) M) : Zj κ nL pc lv (.int y :: .int x :: st) M := by
  intro H locs ls hP hD hS hl
  exact lv_iadd X.1 X.2.1 hd (k H locs ls hP hD hS hl)
theorem z_isub (X : CX κ ct tF cc nL own) {x y : Int32} (hd : decode cc pc = .ok (.isub, 1)) (k : Zj κ nL (pc + 1) lv (.int (x - y) :: st) M) : Zj κ nL pc lv (.int y :: .int x :: st) M := by
  intro H locs ls hP hD hS hl
  exact lv_isub X.1 X.2.1 hd (k H locs ls hP hD hS hl)
theorem z_imul (X : CX κ ct tF cc nL own) {x y : Int32} (hd : decode cc pc = .ok (.imul, 1)) (k : Zj κ nL (pc + 1) lv (.int (x * y) :: st) M) : Zj κ nL pc lv (.int y :: .int x :: st) M := by
  intro H locs ls hP hD hS hl
  exact lv_imul X.1 X.2.1 hd (k H locs ls hP hD hS hl)
theorem z_iand (X : CX κ ct tF cc nL own) {x y : Int32} (hd : decode cc pc = .ok (.iand, 1)) (k : Zj κ nL (pc + 1) lv (.int (x &&& y) :: st) M) : Zj κ nL pc lv (.int y :: .int x :: st) M := by
  intro H locs ls hP hD hS hl
  exact lv_iand X.1 X.2.1 hd (k H locs ls hP hD hS hl)
theorem z_ior (X : CX κ ct tF cc nL own) {x y : Int32} (hd : decode cc pc = .ok (.ior, 1)) (k : Zj κ nL (pc + 1) lv (.int (x ||| y) :: st) M) : Zj κ nL pc lv (.int y :: .int x :: st) M := by
  intro H locs ls hP hD hS hl
  exact lv_ior X.1 X.2.1 hd (k H locs ls hP hD hS hl)
theorem z_ixor (X : CX κ ct tF cc nL own) {x y : Int32} (hd : decode cc pc = .ok (.ixor, 1)) (k : Zj κ nL (pc + 1) lv (.int (x ^^^ y) :: st) M) : Zj κ nL pc lv (.int y :: .int x :: st) M := by
  intro H locs ls hP hD hS hl
  exact lv_ixor X.1 X.2.1 hd (k H locs ls hP hD hS hl)
theorem z_ishl (X : CX κ ct tF cc nL own) {x y : Int32} (hd : decode cc pc = .ok (.ishl, 1)) (k : Zj κ nL (pc + 1) lv (.int (x <<< (y &&& 31)) :: st) M) : Zj κ nL pc lv (.int y :: .int x :: st) M := by
  intro H locs ls hP hD hS hl
  exact lv_ishl X.1 X.2.1 hd (k H locs ls hP hD hS hl)
theorem z_ishr (X : CX κ ct tF cc nL own) {x y : Int32} (hd : decode cc pc = .ok (.ishr, 1)) (k : Zj κ nL (pc + 1) lv (.int (x >>> (y &&& 31)) :: st) M) : Zj κ nL pc lv (.int y :: .int x :: st) M := by
  intro H locs ls hP hD hS hl
  exact lv_ishr X.1 X.2.1 hd (k H locs ls hP hD hS hl)
theorem z_lsub (X : CX κ ct tF cc nL own) {x y : Int64} (hd : decode cc pc = .ok (.lsub, 1)) (k : Zj κ nL (pc + 1) lv (.long (x - y) :: st) M) : Zj κ nL pc lv (.long y :: .long x :: st) M := by
  intro H locs ls hP hD hS hl
  exact lv_lsub X.1 X.2.1 hd (k H locs ls hP hD hS hl)
theorem z_land (X : CX κ ct tF cc nL own) {x y : Int64} (hd : decode cc pc = .ok (.land, 1)) (k : Zj κ nL (pc + 1) lv (.long (x &&& y) :: st) M) : Zj κ nL pc lv (.long y :: .long x :: st) M := by
  intro H locs ls hP hD hS hl
  exact lv_land X.1 X.2.1 hd (k H locs ls hP hD hS hl)
theorem z_lor (X : CX κ ct tF cc nL own) {x y : Int64} (hd : decode cc pc = .ok (.lor, 1)) (k : Zj κ nL (pc + 1) lv (.long (x ||| y) :: st) M) : Zj κ nL pc lv (.long y :: .long x :: st) M := by
  intro H locs ls hP hD hS hl
  exact lv_lor X.1 X.2.1 hd (k H locs ls hP hD hS hl)
theorem z_ladd (X : CX κ ct tF cc nL own) {x y : Int64} (hd : decode cc pc = .ok (.ladd, 1)) (k : Zj κ nL (pc + 1) lv (.long (x + y) :: st) M) : Zj κ nL pc lv (.long y :: .long x :: st) M := by
  intro H locs ls hP hD hS hl
  exact lv_ladd X.1 X.2.1 hd (k H locs ls hP hD hS hl)
theorem z_lshl (X : CX κ ct tF cc nL own) {x : Int64} {y : Int32} (hd : decode cc pc = .ok (.lshl, 1)) (k : Zj κ nL (pc + 1) lv (.long (x <<< (y.toInt64 &&& 63)) :: st) M) : Zj κ nL pc lv (.int y :: .long x :: st) M := by
  intro H locs ls hP hD hS hl
  exact lv_lshl X.1 X.2.1 hd rfl (k H locs ls hP hD hS hl)
theorem z_iushr (X : CX κ ct tF cc nL own) {x y : Int32} (hd : decode cc pc = .ok (.iushr, 1)) (k : Zj κ nL (pc + 1) lv (.int ((x.toUInt32 >>> (y.toUInt32 &&& Int32.toUInt32 31)).toInt32) :: st) M) : Zj κ nL pc lv (.int y :: .int x :: st) M := by
  intro H locs ls hP hD hS hl
  exact lv_iushr X.1 X.2.1 hd rfl (k H locs ls hP hD hS hl)
theorem z_idiv (X : CX κ ct tF cc nL own) {x y v : Int32} (hd : decode cc pc = .ok (.idiv, 1)) (hv : ¬ y = 0 ∧ x / y = v) (k : Zj κ nL (pc + 1) lv (.int v :: st) M) : Zj κ nL pc lv (.int y :: .int x :: st) M := by
  intro H locs ls hP hD hS hl
  exact lv_idiv X.1 X.2.1 hd hv.1 (by rw [hv.2]; exact (k H locs ls hP hD hS hl))
theorem z_irem (X : CX κ ct tF cc nL own) {x y v : Int32} (hd : decode cc pc = .ok (.irem, 1)) (hv : ¬ y = 0 ∧ x - x / y * y = v) (k : Zj κ nL (pc + 1) lv (.int v :: st) M) : Zj κ nL pc lv (.int y :: .int x :: st) M := by
  intro H locs ls hP hD hS hl
  exact lv_irem X.1 X.2.1 hd hv.1 (by rw [hv.2]; exact (k H locs ls hP hD hS hl))
theorem z_ineg (X : CX κ ct tF cc nL own) {x : Int32} (hd : decode cc pc = .ok (.ineg, 1)) (k : Zj κ nL (pc + 1) lv (.int (0 - x) :: st) M) : Zj κ nL pc lv (.int x :: st) M := by
  intro H locs ls hP hD hS hl
  exact lv_ineg X.1 X.2.1 hd (k H locs ls hP hD hS hl)
theorem z_i2l (X : CX κ ct tF cc nL own) {x : Int32} (hd : decode cc pc = .ok (.i2l, 1)) (k : Zj κ nL (pc + 1) lv (.long x.toInt64 :: st) M) : Zj κ nL pc lv (.int x :: st) M := by
  intro H locs ls hP hD hS hl
  exact lv_i2l X.1 X.2.1 hd rfl (k H locs ls hP hD hS hl)
theorem z_l2i (X : CX κ ct tF cc nL own) {x : Int64} (hd : decode cc pc = .ok (.l2i, 1)) (k : Zj κ nL (pc + 1) lv (.int x.toInt32 :: st) M) : Zj κ nL pc lv (.long x :: st) M := by
  intro H locs ls hP hD hS hl
  exact lv_l2i X.1 X.2.1 hd rfl (k H locs ls hP hD hS hl)
theorem z_lcmp (X : CX κ ct tF cc nL own) {x y : Int64} (hd : decode cc pc = .ok (.lcmp, 1)) (k : Zj κ nL (pc + 1) lv (.int (lg_cmp x y) :: st) M) : Zj κ nL pc lv (.long y :: .long x :: st) M := by
  intro H locs ls hP hD hS hl
  exact W.lcmp X.1 X.2.1 hd (k H locs ls hP hD hS hl)
theorem z_dup (X : CX κ ct tF cc nL own) {va : Value} (hd : decode cc pc = .ok (.dup, 1)) (h1 : va.category = 1) (k : Zj κ nL (pc + 1) lv (va :: va :: st) M) : Zj κ nL pc lv (va :: st) M := by
  intro H locs ls hP hD hS hl
  exact lv_dup X.1 X.2.1 hd h1 (k H locs ls hP hD hS hl)
theorem z_pop (X : CX κ ct tF cc nL own) {va : Value} (hd : decode cc pc = .ok (.pop, 1)) (h1 : va.category = 1) (k : Zj κ nL (pc + 1) lv (st) M) : Zj κ nL pc lv (va :: st) M := by
  intro H locs ls hP hD hS hl
  exact lv_pop X.1 X.2.1 hd h1 (k H locs ls hP hD hS hl)
theorem z_dup_x1 (X : CX κ ct tF cc nL own) {va vb : Value} (hd : decode cc pc = .ok (.dup_x1, 1)) (h1 : va.category = 1) (h2 : vb.category = 1) (k : Zj κ nL (pc + 1) lv (va :: vb :: va :: st) M) : Zj κ nL pc lv (va :: vb :: st) M := by
  intro H locs ls hP hD hS hl
  exact lv_dup_x1 X.1 X.2.1 hd h1 h2 (k H locs ls hP hD hS hl)
theorem z_dup2 (X : CX κ ct tF cc nL own) {va vb : Value} (hd : decode cc pc = .ok (.dup2, 1)) (h1 : va.category = 1) (h2 : vb.category = 1) (k : Zj κ nL (pc + 1) lv (va :: vb :: va :: vb :: st) M) : Zj κ nL pc lv (va :: vb :: st) M := by
  intro H locs ls hP hD hS hl
  exact lv_dup2_11 X.1 X.2.1 hd h1 h2 (k H locs ls hP hD hS hl)
theorem z_if_eq (X : CX κ ct tF cc nL own) {x : Int32} {off : Int} {tgt : Nat} (hd : decode cc pc = .ok (.ifCond .eq off, 3)) (ht : (pc : Int) + off = (tgt : Int)) (kt : x = 0 → Zj κ nL tgt lv (st) M) (kf : ¬ (x = 0) → Zj κ nL (pc + 3) lv (st) M) : Zj κ nL pc lv (.int x :: st) M := by
  intro H locs ls hP hD hS hl
  exact lv_if_eq X.1 X.2.1 hd ht (fun h => kt h H locs ls hP hD hS hl) (fun h => kf h H locs ls hP hD hS hl)
theorem z_icmp_eq (X : CX κ ct tF cc nL own) {x y : Int32} {off : Int} {tgt : Nat} (hd : decode cc pc = .ok (.if_icmp .eq off, 3)) (ht : (pc : Int) + off = (tgt : Int)) (kt : x = y → Zj κ nL tgt lv (st) M) (kf : ¬ (x = y) → Zj κ nL (pc + 3) lv (st) M) : Zj κ nL pc lv (.int y :: .int x :: st) M := by
  intro H locs ls hP hD hS hl
  exact lv_icmp_eq X.1 X.2.1 hd ht (fun h => kt h H locs ls hP hD hS hl) (fun h => kf h H locs ls hP hD hS hl)
theorem z_if_ne (X : CX κ ct tF cc nL own) {x : Int32} {off : Int} {tgt : Nat} (hd : decode cc pc = .ok (.ifCond .ne off, 3)) (ht : (pc : Int) + off = (tgt : Int)) (kt : ¬ x = 0 → Zj κ nL tgt lv (st) M) (kf : x = 0 → Zj κ nL (pc + 3) lv (st) M) : Zj κ nL pc lv (.int x :: st) M := by
  intro H locs ls hP hD hS hl
  exact lv_if_ne X.1 X.2.1 hd ht (fun h => kt h H locs ls hP hD hS hl) (fun h => kf h H locs ls hP hD hS hl)
theorem z_icmp_ne (X : CX κ ct tF cc nL own) {x y : Int32} {off : Int} {tgt : Nat} (hd : decode cc pc = .ok (.if_icmp .ne off, 3)) (ht : (pc : Int) + off = (tgt : Int)) (kt : ¬ x = y → Zj κ nL tgt lv (st) M) (kf : x = y → Zj κ nL (pc + 3) lv (st) M) : Zj κ nL pc lv (.int y :: .int x :: st) M := by
  intro H locs ls hP hD hS hl
  exact lv_icmp_ne X.1 X.2.1 hd ht (fun h => kt h H locs ls hP hD hS hl) (fun h => kf h H locs ls hP hD hS hl)
theorem z_if_lt (X : CX κ ct tF cc nL own) {x : Int32} {off : Int} {tgt : Nat} (hd : decode cc pc = .ok (.ifCond .lt off, 3)) (ht : (pc : Int) + off = (tgt : Int)) (kt : x < 0 → Zj κ nL tgt lv (st) M) (kf : ¬ (x < 0) → Zj κ nL (pc + 3) lv (st) M) : Zj κ nL pc lv (.int x :: st) M := by
  intro H locs ls hP hD hS hl
  exact lv_if_lt X.1 X.2.1 hd ht (fun h => kt h H locs ls hP hD hS hl) (fun h => kf h H locs ls hP hD hS hl)
theorem z_icmp_lt (X : CX κ ct tF cc nL own) {x y : Int32} {off : Int} {tgt : Nat} (hd : decode cc pc = .ok (.if_icmp .lt off, 3)) (ht : (pc : Int) + off = (tgt : Int)) (kt : x < y → Zj κ nL tgt lv (st) M) (kf : ¬ (x < y) → Zj κ nL (pc + 3) lv (st) M) : Zj κ nL pc lv (.int y :: .int x :: st) M := by
  intro H locs ls hP hD hS hl
  exact lv_icmp_lt X.1 X.2.1 hd ht (fun h => kt h H locs ls hP hD hS hl) (fun h => kf h H locs ls hP hD hS hl)
theorem z_if_ge (X : CX κ ct tF cc nL own) {x : Int32} {off : Int} {tgt : Nat} (hd : decode cc pc = .ok (.ifCond .ge off, 3)) (ht : (pc : Int) + off = (tgt : Int)) (kt : 0 ≤ x → Zj κ nL tgt lv (st) M) (kf : ¬ (0 ≤ x) → Zj κ nL (pc + 3) lv (st) M) : Zj κ nL pc lv (.int x :: st) M := by
  intro H locs ls hP hD hS hl
  exact lv_if_ge X.1 X.2.1 hd ht (fun h => kt h H locs ls hP hD hS hl) (fun h => kf h H locs ls hP hD hS hl)
theorem z_icmp_ge (X : CX κ ct tF cc nL own) {x y : Int32} {off : Int} {tgt : Nat} (hd : decode cc pc = .ok (.if_icmp .ge off, 3)) (ht : (pc : Int) + off = (tgt : Int)) (kt : y ≤ x → Zj κ nL tgt lv (st) M) (kf : ¬ (y ≤ x) → Zj κ nL (pc + 3) lv (st) M) : Zj κ nL pc lv (.int y :: .int x :: st) M := by
  intro H locs ls hP hD hS hl
  exact lv_icmp_ge X.1 X.2.1 hd ht (fun h => kt h H locs ls hP hD hS hl) (fun h => kf h H locs ls hP hD hS hl)
theorem z_if_gt (X : CX κ ct tF cc nL own) {x : Int32} {off : Int} {tgt : Nat} (hd : decode cc pc = .ok (.ifCond .gt off, 3)) (ht : (pc : Int) + off = (tgt : Int)) (kt : 0 < x → Zj κ nL tgt lv (st) M) (kf : ¬ (0 < x) → Zj κ nL (pc + 3) lv (st) M) : Zj κ nL pc lv (.int x :: st) M := by
  intro H locs ls hP hD hS hl
  exact lv_if_gt X.1 X.2.1 hd ht (fun h => kt h H locs ls hP hD hS hl) (fun h => kf h H locs ls hP hD hS hl)
theorem z_icmp_gt (X : CX κ ct tF cc nL own) {x y : Int32} {off : Int} {tgt : Nat} (hd : decode cc pc = .ok (.if_icmp .gt off, 3)) (ht : (pc : Int) + off = (tgt : Int)) (kt : y < x → Zj κ nL tgt lv (st) M) (kf : ¬ (y < x) → Zj κ nL (pc + 3) lv (st) M) : Zj κ nL pc lv (.int y :: .int x :: st) M := by
  intro H locs ls hP hD hS hl
  exact lv_icmp_gt X.1 X.2.1 hd ht (fun h => kt h H locs ls hP hD hS hl) (fun h => kf h H locs ls hP hD hS hl)
theorem z_if_le (X : CX κ ct tF cc nL own) {x : Int32} {off : Int} {tgt : Nat} (hd : decode cc pc = .ok (.ifCond .le off, 3)) (ht : (pc : Int) + off = (tgt : Int)) (kt : x ≤ 0 → Zj κ nL tgt lv (st) M) (kf : ¬ (x ≤ 0) → Zj κ nL (pc + 3) lv (st) M) : Zj κ nL pc lv (.int x :: st) M := by
  intro H locs ls hP hD hS hl
  exact lv_if_le X.1 X.2.1 hd ht (fun h => kt h H locs ls hP hD hS hl) (fun h => kf h H locs ls hP hD hS hl)
theorem z_icmp_le (X : CX κ ct tF cc nL own) {x y : Int32} {off : Int} {tgt : Nat} (hd : decode cc pc = .ok (.if_icmp .le off, 3)) (ht : (pc : Int) + off = (tgt : Int)) (kt : x ≤ y → Zj κ nL tgt lv (st) M) (kf : ¬ (x ≤ y) → Zj κ nL (pc + 3) lv (st) M) : Zj κ nL pc lv (.int y :: .int x :: st) M := by
  intro H locs ls hP hD hS hl
  exact lv_icmp_le X.1 X.2.1 hd ht (fun h => kt h H locs ls hP hD hS hl) (fun h => kf h H locs ls hP hD hS hl)
theorem z_goto (X : CX κ ct tF cc nL own) {off : Int} {tgt : Nat} (hd : decode cc pc = .ok (.goto off, 3)) (ht : (pc : Int) + off = (tgt : Int)) (k : Zj κ nL tgt lv (st) M) : Zj κ nL pc lv (st) M := by
  intro H locs ls hP hD hS hl
  exact lv_goto X.1 X.2.1 hd ht (k H locs ls hP hD hS hl)
theorem z_tabO (X : CX κ ct tF cc nL own) {dflt lo hi : Int} {offs : Array Int} {len : Nat} {x : Int32} {tgt : Nat} (hd : decode cc pc = .ok (.tableswitch dflt lo hi offs, len)) (h : x.toInt < lo ∨ hi < x.toInt) (ht : (pc : Int) + dflt = (tgt : Int)) (k : Zj κ nL tgt lv (st) M) : Zj κ nL pc lv (.int x :: st) M := by
  intro H locs ls hP hD hS hl
  exact lv_tableOut X.1 X.2.1 hd h ht (k H locs ls hP hD hS hl)
theorem z_tabI (X : CX κ ct tF cc nL own) {dflt lo hi : Int} {offs : Array Int} {len : Nat} {x : Int32} {off : Int} {tgt : Nat} (hd : decode cc pc = .ok (.tableswitch dflt lo hi offs, len)) (h1 : ¬ x.toInt < lo) (h2 : ¬ hi < x.toInt) (ho : offs[(x.toInt - lo).toNat]? = some off) (ht : (pc : Int) + off = (tgt : Int)) (k : Zj κ nL tgt lv (st) M) : Zj κ nL pc lv (.int x :: st) M := by
  intro H locs ls hP hD hS hl
  exact lv_tableIn X.1 X.2.1 hd h1 h2 ho ht (k H locs ls hP hD hS hl)
theorem z_look (X : CX κ ct tF cc nL own) {dflt : Int} {ps : Array (Int × Int)} {len : Nat} {x : Int32} {off : Int} {tgt : Nat} (hd : decode cc pc = .ok (.lookupswitch dflt ps, len)) (hp : (ps.toList.zip (ps.toList.drop 1)).all (fun (a, next) => a.1 < next.1) = true) (ho : Op.lookupswitch.offset ps.toList dflt x.toInt = off) (ht : (pc : Int) + off = (tgt : Int)) (k : Zj κ nL tgt lv (st) M) : Zj κ nL pc lv (.int x :: st) M := by
  intro H locs ls hP hD hS hl
  exact lv_lookup X.1 X.2.1 hd hp ho ht (k H locs ls hP hD hS hl)
theorem z_get (X : CX κ ct tF cc nL own) {C : String} {T : u_T} {N ci index q a j : Nat} {fs : List Value} {v : Value} (hin : ∀ w ∈ u_ws C T N, w ∈ lw_gd) (hc : vwCl[ci]? = some (C, T, N)) (hj : j < N) (hlink : Cond.fieldLink own index (T j).1 (T j).2.1 (T j).2.2.1 ∈ lw_gd) (hO : (kw κ M)[q]? = some (a, .inr (ci, fs))) (hv : fs[j]? = some v) (hd : decode cc pc = .ok (.getfield index, 3)) (k : Zj κ nL (pc + 3) lv (v :: st) M) : Zj κ nL pc lv (.ref a :: st) M := by
  intro H locs ls hP hD hS hl
  exact va_get X.1 X.2.1 X.2.2.2.2.1 hin X.2.2.2.1 X.2.2.2.2.2.1 hP q hO hc j hj (X.2.2.2.2.1 _ hlink) (fun _ h => h) hv hd (k H locs ls hP hD hS hl)
theorem z_put (X : CX κ ct tF cc nL own) {C : String} {T : u_T} {N ci index q a j : Nat} {fs : List Value} {v : Value} {ty : FieldType} (hin : ∀ w ∈ u_ws C T N, w ∈ lw_gd) (ty0 : Nat → FieldType) (hty : ∀ k, k < N → parseFieldDescriptor (T k).2.2.1 = some (ty0 k)) (hnm : ∀ a, a < N → ∀ b, b < N → a ≠ b → (T a).2.1 ≠ (T b).2.1) (hc : vwCl[ci]? = some (C, T, N)) (hj : j < N) (hlink : Cond.fieldLink own index (T j).1 (T j).2.1 (T j).2.2.1 ∈ lw_gd) (hfin : (T j).2.2.2 = false) (hpd : parseFieldDescriptor (T j).2.2.1 = some ty) (hn : narrow ty v = v) (hfit : fits ty v = true) (hO : (kw κ M)[q]? = some (a, .inr (ci, fs))) (hlen : j < fs.length) (hset : (kw κ M).set q (a, .inr (ci, fs.set j v)) = kw κ M') (hd : decode cc pc = .ok (.putfield index, 3)) (k : Zj κ nL (pc + 3) lv (st) M') : Zj κ nL pc lv (v :: .ref a :: st) M := by
  intro H locs ls hP hD hS hl
  exact va_put X.1 X.2.1 X.2.2.2.2.1 hin ty0 hty hnm X.2.2.2.1 X.2.2.2.2.2.1 hP hD hS q hO hc j hj (X.2.2.2.2.1 _ hlink) (fun _ h => h) hfin hpd hn hfit hlen hd (fun H locs hP hD hS => k H locs ls (hset ▸ hP) (hset ▸ hD) hS hl)
theorem z_iald (X : CX κ ct tF cc nL own) {q a n : Nat} {f : Nat → Int32} {i : Int32} {v : Int32} (hA : (kw κ M)[q]? = some (a, .inl ((ct 0), n, .inl f))) (hv : vp_in i n ∧ f i.toNatClampNeg = v) (hd : decode cc pc = .ok (.iaload, 1)) (k : Zj κ nL (pc + 1) lv (.int v :: st) M) : Zj κ nL pc lv (.int i :: .ref a :: st) M := by
  intro H locs ls hP hD hS hl
  exact va_iald X.1 X.2.1 X.2.2.2.2.2.1 hP q 0 hA rfl hv.1 hd (by rw [hv.2]; exact (k H locs ls hP hD hS hl))
theorem z_zald (X : CX κ ct tF cc nL own) {q a n : Nat} {f : Nat → Int32} {i : Int32} {v : Int32} (hA : (kw κ M)[q]? = some (a, .inl ((ct 2), n, .inl f))) (hv : vp_in i n ∧ f i.toNatClampNeg = v) (hd : decode cc pc = .ok (.baload, 1)) (k : Zj κ nL (pc + 1) lv (.int v :: st) M) : Zj κ nL pc lv (.int i :: .ref a :: st) M := by
  intro H locs ls hP hD hS hl
  exact va_zald X.1 X.2.1 X.2.2.2.2.2.1 hP q 2 hA rfl hv.1 hd (by rw [hv.2]; exact (k H locs ls hP hD hS hl))
theorem z_lald (X : CX κ ct tF cc nL own) {q a n : Nat} {f : Nat → Int64} {i : Int32} {v : Int64} (hA : (kw κ M)[q]? = some (a, .inl ((ct 1), n, .inr (.inl f)))) (hv : vp_in i n ∧ f i.toNatClampNeg = v) (hd : decode cc pc = .ok (.laload, 1)) (k : Zj κ nL (pc + 1) lv (.long v :: st) M) : Zj κ nL pc lv (.int i :: .ref a :: st) M := by
  intro H locs ls hP hD hS hl
  exact va_lald X.1 X.2.1 X.2.2.2.2.2.1 hP q 1 hA rfl hv.1 hd (by rw [hv.2]; exact (k H locs ls hP hD hS hl))
theorem z_iast (X : CX κ ct tF cc nL own) {q a n : Nat} {f g : Nat → Int32} {i : Int32} {x : Int32} (hA : (kw κ M)[q]? = some (a, .inl ((ct 0), n, .inl f))) (hv : vp_in i n ∧ upd f i.toNatClampNeg x = g) (hset : (kw κ M).set q (a, .inl ((ct 0), n, .inl g)) = kw κ M') (hd : decode cc pc = .ok (.iastore, 1)) (k : Zj κ nL (pc + 1) lv (st) M') : Zj κ nL pc lv (.int x :: .int i :: .ref a :: st) M := by
  intro H locs ls hP hD hS hl
  exact va_iast X.1 X.2.1 X.2.2.2.2.2.1 hP hD hS q 0 hA rfl hv.1 hd (fun H locs hP hD hS => by rw [hv.2, hset] at hP hD; exact k H locs ls hP hD hS hl)
theorem z_zast (X : CX κ ct tF cc nL own) {q a n : Nat} {f g : Nat → Int32} {i : Int32} {x : Int32} (hA : (kw κ M)[q]? = some (a, .inl ((ct 2), n, .inl f))) (hv : vp_in i n ∧ upd f i.toNatClampNeg (vp_nar .boolean x) = g) (hset : (kw κ M).set q (a, .inl ((ct 2), n, .inl g)) = kw κ M') (hd : decode cc pc = .ok (.bastore, 1)) (k : Zj κ nL (pc + 1) lv (st) M') : Zj κ nL pc lv (.int x :: .int i :: .ref a :: st) M := by
  intro H locs ls hP hD hS hl
  exact va_zast X.1 X.2.1 X.2.2.2.2.2.1 hP hD hS q 2 hA rfl hv.1 hd (fun H locs hP hD hS => by rw [hv.2, hset] at hP hD; exact k H locs ls hP hD hS hl)
theorem z_last (X : CX κ ct tF cc nL own) {q a n : Nat} {f g : Nat → Int64} {i : Int32} {x : Int64} (hA : (kw κ M)[q]? = some (a, .inl ((ct 1), n, .inr (.inl f)))) (hv : vp_in i n ∧ vp_updL f i.toNatClampNeg x = g) (hset : (kw κ M).set q (a, .inl ((ct 1), n, .inr (.inl g))) = kw κ M') (hd : decode cc pc = .ok (.lastore, 1)) (k : Zj κ nL (pc + 1) lv (st) M') : Zj κ nL pc lv (.long x :: .int i :: .ref a :: st) M := by
  intro H locs ls hP hD hS hl
  exact va_last X.1 X.2.1 X.2.2.2.2.2.1 hP hD hS q 1 hA rfl hv.1 hd (fun H locs hP hD hS => by rw [hv.2, hset] at hP hD; exact k H locs ls hP hD hS hl)
theorem z_aald (X : CX κ ct tF cc nL own) {q a n : Nat} {f : Nat → Option Nat} {i : Int32} {v : Nat} (hA : (kw κ M)[q]? = some (a, .inl (ct 3, n, .inr (.inr (.inr (.inr f)))))) (hv : vp_in i n ∧ f i.toNatClampNeg = some v) (hd : decode cc pc = .ok (.aaload, 1)) (k : Zj κ nL (pc + 1) lv (.ref v :: st) M) : Zj κ nL pc lv (.int i :: .ref a :: st) M := by
  intro H locs ls hP hD hS hl
  exact W.aald (v := .ref v) (ty := .array .long) X.1 X.2.1 (hP q _ hA) ((X.2.2.2.2.2.1.2 3 _ rfl).1 n (fun j => va_rf (f j))) rfl (fun q => by cases q) (by show ¬ (i < 0 ∨ (arrV _ _ _).slots.size ≤ _); rw [arrV_size]; exact hv.1) (by show (arrV _ _ _).slots[_]? = _; rw [arrV_read _ _ (Nat.not_le.mp fun q => hv.1 (Or.inr q)), hv.2]; rfl) rfl rfl hd (k H locs ls hP hD hS hl)
theorem z_alen (X : CX κ ct tF cc nL own) {q a t0 : Nat} {cA : ClassId} {x : vp_A} {ty : FieldType} {v : Int32} (hA : (kw κ M)[q]? = some (a, .inl (cA, x))) (ht : (tyL ct)[t0]? = some (cA, ty)) (hv : Int32.ofNat x.1 = v) (hd : decode cc pc = .ok (.arraylength, 1)) (k : Zj κ nL (pc + 1) lv (.int v :: st) M) : Zj κ nL pc lv (.ref a :: st) M := by
  intro H locs ls hP hD hS hl
  exact va_alen X.1 X.2.1 X.2.2.2.2.2.1 hP q t0 hA ht hv hd (k H locs ls hP hD hS hl)
theorem z_gets (X : CX κ ct tF cc nL own) {index : Nat} (hlink : Cond.fieldLink own index "LeaningTrees$Forest" "FIRST" "[I" ∈ lw_gd) (hd : decode cc pc = .ok (.getstatic index, 3)) (k : Zj κ nL (pc + 3) lv (.ref tF :: st) M) : Zj κ nL pc lv (st) M := by
  intro H locs ls hP hD hS hl
  exact va_gets X.1 X.2.1 X.2.2.2.2.2.2.1 hS X.2.2.2.1 (X.2.2.2.2.1 _ hlink) (fun _ h => h) hd (k H locs ls hP hD hS hl)
theorem z_tald (X : CX κ ct tF cc nL own) {i v : Int32} (hv : vp_in i 9 ∧ fiF i.toNatClampNeg = v) (hd : decode cc pc = .ok (.iaload, 1)) (k : Zj κ nL (pc + 1) lv (.int v :: st) M) : Zj κ nL pc lv (.int i :: .ref tF :: st) M := by
  intro H locs ls hP hD hS hl
  exact va_ti X.1 X.2.1 X.2.2.2.2.2.2.2 hS hv.1 (congrArg Value.int hv.2) hd (k H locs ls hP hD hS hl)
theorem z_max (X : CX κ ct tF cc nL own) {index : Nat} {x y : Int32} (hlink : Cond.methodLink own index Lib.Math.max.name ∈ lw_gd) (hw : Cond.static Lib.Math.max.name ∈ lw_gd ∧ Cond.initialized "java/lang/Math" ∈ lw_gd ∧ Cond.code Lib.Math.max.name Lib.Math.max.code 2 (some .int) ∈ lw_gd) (hf : 1 ≤ (kR κ).frames) (hL : (st.map fun v => v.category).sum + 13 ≤ (kR κ).locals) (hc : kn κ ≤ (kR κ).cells ∧ ko κ ≤ (kR κ).slots) (hd : decode cc pc = .ok (.invokestatic index, 3)) (k : Zj κ nL (pc + 3) lv (.int (if x < y then y else x) :: st) M) : Zj κ nL pc lv (.int y :: .int x :: st) M := by
  intro H locs ls hP hD hS hl
  exact va_mmax X.1 X.2.1 (by rw [X.2.2.1]; exact hl.1.symm) X.2.2.2.1 (X.2.2.2.2.1 _ hlink) (X.2.2.2.2.1 _ hw.1) (X.2.2.2.2.1 _ hw.2.1) (X.2.2.2.2.1 _ hw.2.2) hf hL hc.1 hc.2 hd (k H locs ls hP hD hS hl)
theorem z_min (X : CX κ ct tF cc nL own) {index : Nat} {x y : Int32} (hlink : Cond.methodLink own index Lib.Math.min.name ∈ lw_gd) (hw : Cond.static Lib.Math.min.name ∈ lw_gd ∧ Cond.initialized "java/lang/Math" ∈ lw_gd ∧ Cond.code Lib.Math.min.name Lib.Math.min.code 2 (some .int) ∈ lw_gd) (hf : 1 ≤ (kR κ).frames) (hL : (st.map fun v => v.category).sum + 13 ≤ (kR κ).locals) (hc : kn κ ≤ (kR κ).cells ∧ ko κ ≤ (kR κ).slots) (hd : decode cc pc = .ok (.invokestatic index, 3)) (k : Zj κ nL (pc + 3) lv (.int (if y < x then y else x) :: st) M) : Zj κ nL pc lv (.int y :: .int x :: st) M := by
  intro H locs ls hP hD hS hl
  exact va_mmin X.1 X.2.1 (by rw [X.2.2.1]; exact hl.1.symm) X.2.2.2.1 (X.2.2.2.2.1 _ hlink) (X.2.2.2.2.1 _ hw.1) (X.2.2.2.2.1 _ hw.2.1) (X.2.2.2.2.1 _ hw.2.2) hf hL hc.1 hc.2 hd (k H locs ls hP hD hS hl)
theorem z_copy (X : CX κ ct tF cc nL own) {index q0 q1 a0 a n0 n1 : Nat} {f g g2 : Nat → Int32} {sp dp n : Int32} (hlink : Cond.methodLink own index arraycopyName ∈ lw_gd) (hw : Cond.native arraycopyName ∈ lw_gd ∧ Cond.static arraycopyName ∈ lw_gd ∧ Cond.initialized "java/lang/System" ∈ lw_gd) (hA0 : (kw κ M)[q0]? = some (a0, .inl (ct 0, n0, .inl f))) (hA1 : (kw κ M)[q1]? = some (a, .inl (ct 0, n1, .inl g))) (h1 : ¬ sp < 0) (h2 : ¬ dp < 0) (h3 : ¬ n < 0) (h4 : sp.toNatClampNeg + n.toNatClampNeg ≤ n0) (h5 : dp.toNatClampNeg + n.toNatClampNeg ≤ n1) (hg : va_cpy f g sp.toNatClampNeg dp.toNatClampNeg n.toNatClampNeg = g2) (hset : (kw κ M).set q1 (a, .inl (ct 0, n1, .inl g2)) = kw κ M') (hf : 1 ≤ (kR κ).frames) (hL : (st.map fun v => v.category).sum + (nativeFrameWords "java/lang/System" "arraycopy" 5 + 11) ≤ (kR κ).locals) (hd : decode cc pc = .ok (.invokestatic index, 3)) (k : Zj κ nL (pc + 3) lv (st) M') : Zj κ nL pc lv (.int n :: .int dp :: .ref a :: .int sp :: .ref a0 :: st) M := by
  intro H locs ls hP hD hS hl
  exact va_copyi X.1 X.2.1 (by rw [X.2.2.1]; exact hl.1.symm) X.2.2.2.1 (X.2.2.2.2.1 _ hlink) (X.2.2.2.2.1 _ hw.1) (X.2.2.2.2.1 _ hw.2.1) (X.2.2.2.2.1 _ hw.2.2) X.2.2.2.2.2.1 hP hD hS q0 q1 0 0 hA0 hA1 rfl rfl rfl h1 h2 h3 h4 h5 (fun _ _ => rfl) hf hL hd (fun H locs hP hD hS => by rw [hg, hset] at hP hD; exact k H locs ls hP hD hS hl)
theorem z_cVI (X : CX κ ct tF cc nL own) {y : MethodName} {bytes : ByteArray} {mL : Nat} {rm : Room} {index n : Nat} {As : List Value} {rt : FieldType} {r : Int32} {C : String} {T : u_T} {N ci q b : Nat} {fs : List Value} {st0 : List Value} (hM : CtI (kl κ) y bytes mL rt rm (kD κ) ct tF (kw κ) (.ref b :: As) M r M') (hm : Cond.methodLink own index y ∈ lw_gd) (hv : MV y bytes mL (some rt) C n) (hR : rm.frames + 1 ≤ (kR κ).frames ∧ 8 + (mL + 11) + rm.locals ≤ (kR κ).locals) (hrm : rm.cells = 0 ∧ rm.slots = 0) (hn : As.length = n) (hst : (st.map fun v => v.category).sum ≤ 8) (hO : (kw κ M)[q]? = some (b, .inr (ci, fs))) (hci : vwCl[ci]? = some (C, T, N)) (hc : kn κ ≤ (kR κ).cells ∧ ko κ ≤ (kR κ).slots) (h0 : st0 = As.reverse ++ .ref b :: st) (hd : decode cc pc = .ok (.invokevirtual index, 3)) (k : Zj κ nL (pc + 3) lv (.int r :: st) M') : Zj κ nL pc lv (st0) M := by
  intro H locs ls hP hD hS hl
  exact va_calli (va_runV (As := As) (rest := st) ⟨X.1, X.2.1, X.2.2.1, X.2.2.2.1, X.2.2.2.2.1⟩ (hM (kA κ)) (cwV n X.2.2.2.2.1 (lw_gV hm hv) rfl hrm.1 hrm.2 hv.2 hR) ⟨CP_blind _ _ _ _ _ _ _, va_recv X.2.2.2.2.2.1 hP (ci := ci) (q0 := q) hci hO, fun U hU hW => ⟨rfl, CP_at X hP hD hS U hU hW⟩⟩ rfl hn hl.1 h0 (lv_room hst) hd hc) hS (fun _ _ h => h) (fun _ h => h) (fun r1 u t H1 locs1 ht hvm hw hB hz1 hk1 hS1 => (by subst hw; exact k H1 locs1 ls (by rw [← ht]; exact hB.1) hB.2 hS1 hl))
theorem z_cSI (X : CX κ ct tF cc nL own) {y : MethodName} {bytes : ByteArray} {mL : Nat} {rm : Room} {index n : Nat} {As : List Value} {rt : FieldType} {r : Int32} {st0 : List Value} (hM : CtI (kl κ) y bytes mL rt rm (kD κ) ct tF (kw κ) As M r M') (hm : Cond.methodLink own index y ∈ lw_gd) (hv : MS y bytes mL (some rt) n) (hR : rm.frames + 1 ≤ (kR κ).frames ∧ 8 + (mL + 11) + rm.locals ≤ (kR κ).locals) (hrm : rm.cells = 0 ∧ rm.slots = 0) (hn : As.length = n) (hst : (st.map fun v => v.category).sum ≤ 8) (hc : kn κ ≤ (kR κ).cells ∧ ko κ ≤ (kR κ).slots) (h0 : st0 = As.reverse ++ st) (hd : decode cc pc = .ok (.invokestatic index, 3)) (k : Zj κ nL (pc + 3) lv (.int r :: st) M') : Zj κ nL pc lv (st0) M := by
  intro H locs ls hP hD hS hl
  exact va_calli (va_runS (As := As) (rest := st) ⟨X.1, X.2.1, X.2.2.1, X.2.2.2.1, X.2.2.2.2.1⟩ (hM (kA κ)) (va_cwS n X.2.2.2.2.1 (lw_gS hm hv) rfl hrm.1 hrm.2 hv.2 hR) ⟨CP_blind _ _ _ _ _ _ _, fun U hU hW => ⟨rfl, CP_at X hP hD hS U hU hW⟩⟩ rfl hn hl.1 h0 (lv_room hst) hd hc) hS (fun _ _ h => h) (fun _ h => h) (fun r1 u t H1 locs1 ht hvm hw hB hz1 hk1 hS1 => (by subst hw; exact k H1 locs1 ls (by rw [← ht]; exact hB.1) hB.2 hS1 hl))
theorem z_cVL (X : CX κ ct tF cc nL own) {y : MethodName} {bytes : ByteArray} {mL : Nat} {rm : Room} {index n : Nat} {As : List Value} {r : Int64} {C : String} {T : u_T} {N ci q b : Nat} {fs : List Value} {st0 : List Value} (hM : CtL (kl κ) y bytes mL rm (kD κ) ct tF (kw κ) (.ref b :: As) M r M') (hm : Cond.methodLink own index y ∈ lw_gd) (hv : MV y bytes mL (some .long) C n) (hR : rm.frames + 1 ≤ (kR κ).frames ∧ 8 + (mL + 11) + rm.locals ≤ (kR κ).locals) (hrm : rm.cells = 0 ∧ rm.slots = 0) (hn : As.length = n) (hst : (st.map fun v => v.category).sum ≤ 8) (hO : (kw κ M)[q]? = some (b, .inr (ci, fs))) (hci : vwCl[ci]? = some (C, T, N)) (hc : kn κ ≤ (kR κ).cells ∧ ko κ ≤ (kR κ).slots) (h0 : st0 = As.reverse ++ .ref b :: st) (hd : decode cc pc = .ok (.invokevirtual index, 3)) (k : Zj κ nL (pc + 3) lv (.long r :: st) M') : Zj κ nL pc lv (st0) M := by
  intro H locs ls hP hD hS hl
  exact va_calll (va_runV (As := As) (rest := st) ⟨X.1, X.2.1, X.2.2.1, X.2.2.2.1, X.2.2.2.2.1⟩ (hM (kA κ)) (cwV n X.2.2.2.2.1 (lw_gV hm hv) rfl hrm.1 hrm.2 hv.2 hR) ⟨CP_blind _ _ _ _ _ _ _, va_recv X.2.2.2.2.2.1 hP (ci := ci) (q0 := q) hci hO, fun U hU hW => ⟨rfl, CP_at X hP hD hS U hU hW⟩⟩ rfl hn hl.1 h0 (lv_room hst) hd hc) hS (fun _ _ h => h) (fun _ h => h) (fun r1 u t H1 locs1 ht hvm hw hB hz1 hk1 hS1 => (by subst hw; exact k H1 locs1 ls (by rw [← ht]; exact hB.1) hB.2 hS1 hl))
theorem z_cSL (X : CX κ ct tF cc nL own) {y : MethodName} {bytes : ByteArray} {mL : Nat} {rm : Room} {index n : Nat} {As : List Value} {r : Int64} {st0 : List Value} (hM : CtL (kl κ) y bytes mL rm (kD κ) ct tF (kw κ) As M r M') (hm : Cond.methodLink own index y ∈ lw_gd) (hv : MS y bytes mL (some .long) n) (hR : rm.frames + 1 ≤ (kR κ).frames ∧ 8 + (mL + 11) + rm.locals ≤ (kR κ).locals) (hrm : rm.cells = 0 ∧ rm.slots = 0) (hn : As.length = n) (hst : (st.map fun v => v.category).sum ≤ 8) (hc : kn κ ≤ (kR κ).cells ∧ ko κ ≤ (kR κ).slots) (h0 : st0 = As.reverse ++ st) (hd : decode cc pc = .ok (.invokestatic index, 3)) (k : Zj κ nL (pc + 3) lv (.long r :: st) M') : Zj κ nL pc lv (st0) M := by
  intro H locs ls hP hD hS hl
  exact va_calll (va_runS (As := As) (rest := st) ⟨X.1, X.2.1, X.2.2.1, X.2.2.2.1, X.2.2.2.2.1⟩ (hM (kA κ)) (va_cwS n X.2.2.2.2.1 (lw_gS hm hv) rfl hrm.1 hrm.2 hv.2 hR) ⟨CP_blind _ _ _ _ _ _ _, fun U hU hW => ⟨rfl, CP_at X hP hD hS U hU hW⟩⟩ rfl hn hl.1 h0 (lv_room hst) hd hc) hS (fun _ _ h => h) (fun _ h => h) (fun r1 u t H1 locs1 ht hvm hw hB hz1 hk1 hS1 => (by subst hw; exact k H1 locs1 ls (by rw [← ht]; exact hB.1) hB.2 hS1 hl))
theorem z_cVV (X : CX κ ct tF cc nL own) {y : MethodName} {bytes : ByteArray} {mL : Nat} {rm : Room} {index n : Nat} {As : List Value} {C : String} {T : u_T} {N ci q b : Nat} {fs : List Value} {st0 : List Value} (hM : CtV (kl κ) y bytes mL rm (kD κ) ct tF (kw κ) (.ref b :: As) M M') (hm : Cond.methodLink own index y ∈ lw_gd) (hv : MV y bytes mL none C n) (hR : rm.frames + 1 ≤ (kR κ).frames ∧ 8 + (mL + 11) + rm.locals ≤ (kR κ).locals) (hrm : rm.cells = 0 ∧ rm.slots = 0) (hn : As.length = n) (hst : (st.map fun v => v.category).sum ≤ 8) (hO : (kw κ M)[q]? = some (b, .inr (ci, fs))) (hci : vwCl[ci]? = some (C, T, N)) (hc : kn κ ≤ (kR κ).cells ∧ ko κ ≤ (kR κ).slots) (h0 : st0 = As.reverse ++ .ref b :: st) (hd : decode cc pc = .ok (.invokevirtual index, 3)) (k : Zj κ nL (pc + 3) lv (st) M') : Zj κ nL pc lv (st0) M := by
  intro H locs ls hP hD hS hl
  exact va_callv (va_runV (As := As) (rest := st) ⟨X.1, X.2.1, X.2.2.1, X.2.2.2.1, X.2.2.2.2.1⟩ (hM (kA κ)) (cwV n X.2.2.2.2.1 (lw_gV hm hv) rfl hrm.1 hrm.2 hv.2 hR) ⟨CP_blind _ _ _ _ _ _ _, va_recv X.2.2.2.2.2.1 hP (ci := ci) (q0 := q) hci hO, fun U hU hW => ⟨rfl, CP_at X hP hD hS U hU hW⟩⟩ rfl hn hl.1 h0 (lv_room hst) hd hc) hS (fun _ _ h => h) (fun _ h => h) (fun u t H1 locs1 ht hvm hw hB hz1 hk1 hS1 => (k H1 locs1 ls (by rw [← ht]; exact hB.1) hB.2 hS1 hl))
theorem z_cSV (X : CX κ ct tF cc nL own) {y : MethodName} {bytes : ByteArray} {mL : Nat} {rm : Room} {index n : Nat} {As : List Value} {st0 : List Value} (hM : CtV (kl κ) y bytes mL rm (kD κ) ct tF (kw κ) As M M') (hm : Cond.methodLink own index y ∈ lw_gd) (hv : MS y bytes mL none n) (hR : rm.frames + 1 ≤ (kR κ).frames ∧ 8 + (mL + 11) + rm.locals ≤ (kR κ).locals) (hrm : rm.cells = 0 ∧ rm.slots = 0) (hn : As.length = n) (hst : (st.map fun v => v.category).sum ≤ 8) (hc : kn κ ≤ (kR κ).cells ∧ ko κ ≤ (kR κ).slots) (h0 : st0 = As.reverse ++ st) (hd : decode cc pc = .ok (.invokestatic index, 3)) (k : Zj κ nL (pc + 3) lv (st) M') : Zj κ nL pc lv (st0) M := by
  intro H locs ls hP hD hS hl
  exact va_callv (va_runS (As := As) (rest := st) ⟨X.1, X.2.1, X.2.2.1, X.2.2.2.1, X.2.2.2.2.1⟩ (hM (kA κ)) (va_cwS n X.2.2.2.2.1 (lw_gS hm hv) rfl hrm.1 hrm.2 hv.2 hR) ⟨CP_blind _ _ _ _ _ _ _, fun U hU hW => ⟨rfl, CP_at X hP hD hS U hU hW⟩⟩ rfl hn hl.1 h0 (lv_room hst) hd hc) hS (fun _ _ h => h) (fun _ h => h) (fun u t H1 locs1 ht hvm hw hB hz1 hk1 hS1 => (k H1 locs1 ls (by rw [← ht]; exact hB.1) hB.2 hS1 hl))
theorem z_iret {rt : FieldType} {r : Int32} (hret : ZI κ cc rt r M) (hd : decode cc pc = .ok (.ireturn, 1)) (hn : narrow rt (.int r) = .int r) : Zj κ nL pc lv [.int r] M := by
  intro H locs ls hP hD hS hl
  exact hret H locs ls pc hP hD hS hd hn
theorem z_lret {r : Int64} (hret : ZL κ cc r M) (hd : decode cc pc = .ok (.lreturn, 1)) : Zj κ nL pc lv [.long r] M := by
  intro H locs ls hP hD hS hl
  exact hret H locs ls pc hP hD hS hd
theorem z_vret (hret : ZV κ cc M) (hd : decode cc pc = .ok (.return_, 1)) : Zj κ nL pc lv [] M := by
  intro H locs ls hP hD hS hl
  exact hret H locs ls pc hP hD hS hd
theorem z_sub (ks : List Nat) (hs : lv_pick lv ks = lv') (k : Zj κ nL pc lv' st M) : Zj κ nL pc lv st M := by
  intro H locs ls hP hD hS hl
  exact k H locs ls hP hD hS (lv_sub hl ks hs)
theorem z_mem (h : M = M') (k : Zj κ nL pc lv st M') : Zj κ nL pc lv st M := h ▸ k
end ROWS
/-! cells of a world, told by their number: where they lie, and what writing them makes of the memory -/
def IA (wOf : Mm → va_W) (po ad : Nat → Nat) (cA : ClassId) (q n : Nat) : Prop := ∀ M : Mm, (wOf M)[po q]? = some (ad q, .inl (cA, n, .inl (M.1 q))) ∧ ∀ f, (wOf M).set (po q) (ad q, .inl (cA, n, .inl f)) = wOf (pu M.1 [(q, f)], M.2)
def LA (wOf : Mm → va_W) (po ad : Nat → Nat) (cA : ClassId) (q r n : Nat) : Prop := ∀ M : Mm, (wOf M)[po q]? = some (ad q, .inl (cA, n, .inr (.inl (M.2.1 r)))) ∧ ∀ f, (wOf M).set (po q) (ad q, .inl (cA, n, .inr (.inl f))) = wOf (M.1, pu M.2.1 [(r, f)], M.2.2)
def OB (wOf : Mm → va_W) (po ad : Nat → Nat) (q ci : Nat) (fs : Mm → List Value) : Prop := ∀ M : Mm, (wOf M)[po q]? = some (ad q, .inr (ci, fs M))
def OS (wOf : Mm → va_W) (po ad : Nat → Nat) (q ci j t : Nat) (fs : Mm → List Value) : Prop := ∀ (M : Mm) (v : Int32), (wOf M).set (po q) (ad q, .inr (ci, (fs M).set j (.int v))) = wOf (M.1, M.2.1, pu M.2.2 [(t, v)])
/-- the memory of a method under way: what it began with, its rows, longs and single ints as they are now -/
def mk (M : Mm) (l : List (Nat × (Nat → Int32))) (lo : Nat → Nat → Int64) (sl : List (Nat × Int32)) : Mm := (pu M.1 l, lo, pu M.2.2 sl)
theorem mk_self (M : Mm) (ks ts : List Nat) : M = mk M (ks.map fun k => (k, M.1 k)) M.2.1 (ts.map fun k => (k, M.2.2 k)) := by
  unfold mk
  rw [pu_self, pu_self]
theorem mk_set1 {wOf : Mm → va_W} {po ad : Nat → Nat} {cA : ClassId} {q n : Nat} (h : IA wOf po ad cA q n) {M : Mm} {l l' : List (Nat × (Nat → Int32))} {lo : Nat → Nat → Int64} {sl : List (Nat × Int32)} {f : Nat → Int32} (h1 : hk l q = true) (h2 : rp l q f = l') : (wOf (mk M l lo sl)).set (po q) (ad q, .inl (cA, n, .inl f)) = wOf (mk M l' lo sl) := by
  rw [(h _).2]
  show wOf (pu (pu M.1 l) [(q, f)], lo, pu M.2.2 sl) = _
  rw [pu_rp _ _ _ _ h1, h2]
  rfl
theorem mk_setS {wOf : Mm → va_W} {po ad : Nat → Nat} {q ci j t : Nat} {fs : Mm → List Value} (h : OS wOf po ad q ci j t fs) {M : Mm} {l : List (Nat × (Nat → Int32))} {lo : Nat → Nat → Int64} {sl sl' : List (Nat × Int32)} {v : Int32} (h1 : hk sl t = true) (h2 : rp sl t v = sl') : (wOf (mk M l lo sl)).set (po q) (ad q, .inr (ci, (fs (mk M l lo sl)).set j (.int v))) = wOf (mk M l lo sl') := by
  rw [h]
  show wOf (pu M.1 l, lo, pu (pu M.2.2 sl) [(t, v)]) = _
  rw [pu_rp _ _ _ _ h1, h2]
  rfl
theorem mk_setL {wOf : Mm → va_W} {po ad : Nat → Nat} {cA : ClassId} {q r n : Nat} (h : LA wOf po ad cA q r n) {M : Mm} {l : List (Nat × (Nat → Int32))} {lo lo' : Nat → Nat → Int64} {sl : List (Nat × Int32)} {f : Nat → Int64} (h2 : pu lo [(r, f)] = lo') : (wOf (mk M l lo sl)).set (po q) (ad q, .inl (cA, n, .inr (.inl f))) = wOf (mk M l lo' sl) := by
  rw [(h _).2]
  show wOf (pu M.1 l, pu lo [(r, f)], pu M.2.2 sl) = _
  rw [h2]
  rfl
/-- behind a call that wrote rows l2 and single ints sl2 -/
theorem mk_mk {M : Mm} {l l2 l' : List (Nat × (Nat → Int32))} {lo lo2 : Nat → Nat → Int64} {sl sl2 sl' : List (Nat × Int32)} (h1 : l2.all (fun e => hk l e.1) = true) (h2 : mg l l2 = l') (h3 : sl2.all (fun e => hk sl e.1) = true) (h4 : mg sl sl2 = sl') : mk (mk M l lo sl) l2 lo2 sl2 = mk M l' lo2 sl' := by
  show (pu (pu M.1 l) l2, lo2, pu (pu M.2.2 sl) sl2) = _
  rw [pu_mg _ _ _ h1, pu_mg _ _ _ h3, h2, h4]
  rfl
end

section
/-- a private method of a class that the tables say can be made, by its rows of tables_1 -/
def lw_okq (q : MethodName × Nat) : Prop := (q.1.cls ≠ "java/lang/invoke/MethodHandle" ∧ q.1.cls ≠ "java/lang/invoke/VarHandle") ∧ Cond.instantiable q.1.cls q.2 ∈ tables_1 ∧ Cond.privateMethod q.1 ∈ tables_1 ∧ Cond.instanceMethod q.1 ∈ tables_1
theorem lw_p0 : lw_okq (⟨"LeaningTrees$Forest", "growAll", "(III)I"⟩, 2) := ⟨⟨by decide +kernel, by decide +kernel⟩, List.mem_of_getElem? (i := 22) (by decide +kernel), List.mem_of_getElem? (i := 30) (by decide +kernel), List.mem_of_getElem? (i := 31) (by decide +kernel)⟩
theorem lw_p1 : lw_okq (⟨"LeaningTrees", "size", "()I"⟩, 10) := ⟨⟨by decide +kernel, by decide +kernel⟩, List.mem_of_getElem? (i := 14) (by decide +kernel), List.mem_of_getElem? (i := 199) (by decide +kernel), List.mem_of_getElem? (i := 200) (by decide +kernel)⟩
theorem lw_p2 : lw_okq (⟨"LeaningTrees", "becomeAndTell", "(I)I"⟩, 10) := ⟨⟨by decide +kernel, by decide +kernel⟩, List.mem_of_getElem? (i := 14) (by decide +kernel), List.mem_of_getElem? (i := 232) (by decide +kernel), List.mem_of_getElem? (i := 233) (by decide +kernel)⟩
theorem lw_p3 : lw_okq (⟨"LeaningTrees", "become", "(I)V"⟩, 10) := ⟨⟨by decide +kernel, by decide +kernel⟩, List.mem_of_getElem? (i := 14) (by decide +kernel), List.mem_of_getElem? (i := 236) (by decide +kernel), List.mem_of_getElem? (i := 237) (by decide +kernel)⟩
theorem lw_p4 : lw_okq (⟨"LeaningTrees", "isNode", "(I)Z"⟩, 10) := ⟨⟨by decide +kernel, by decide +kernel⟩, List.mem_of_getElem? (i := 14) (by decide +kernel), List.mem_of_getElem? (i := 256) (by decide +kernel), List.mem_of_getElem? (i := 257) (by decide +kernel)⟩
theorem lw_p5 : lw_okq (⟨"LeaningTrees$Forest", "top", "(III)I"⟩, 2) := ⟨⟨by decide +kernel, by decide +kernel⟩, List.mem_of_getElem? (i := 22) (by decide +kernel), List.mem_of_getElem? (i := 281) (by decide +kernel), List.mem_of_getElem? (i := 282) (by decide +kernel)⟩
theorem lw_p6 : lw_okq (⟨"LeaningTrees", "refusalOfTwo", "(II)I"⟩, 10) := ⟨⟨by decide +kernel, by decide +kernel⟩, List.mem_of_getElem? (i := 14) (by decide +kernel), List.mem_of_getElem? (i := 383) (by decide +kernel), List.mem_of_getElem? (i := 384) (by decide +kernel)⟩
theorem lw_p7 : lw_okq (⟨"LeaningTrees", "refusal", "(I)I"⟩, 10) := ⟨⟨by decide +kernel, by decide +kernel⟩, List.mem_of_getElem? (i := 14) (by decide +kernel), List.mem_of_getElem? (i := 387) (by decide +kernel), List.mem_of_getElem? (i := 388) (by decide +kernel)⟩
theorem lw_p8 : lw_okq (⟨"LeaningTrees", "lack", "(I)I"⟩, 10) := ⟨⟨by decide +kernel, by decide +kernel⟩, List.mem_of_getElem? (i := 14) (by decide +kernel), List.mem_of_getElem? (i := 391) (by decide +kernel), List.mem_of_getElem? (i := 392) (by decide +kernel)⟩
theorem lw_p9 : lw_okq (⟨"LeaningTrees$Order", "joinOf", "(II)I"⟩, 3) := ⟨⟨by decide +kernel, by decide +kernel⟩, List.mem_of_getElem? (i := 42) (by decide +kernel), List.mem_of_getElem? (i := 415) (by decide +kernel), List.mem_of_getElem? (i := 416) (by decide +kernel)⟩
theorem lw_p10 : lw_okq (⟨"LeaningTrees$Order", "meetOf", "(II)I"⟩, 3) := ⟨⟨by decide +kernel, by decide +kernel⟩, List.mem_of_getElem? (i := 42) (by decide +kernel), List.mem_of_getElem? (i := 429) (by decide +kernel), List.mem_of_getElem? (i := 430) (by decide +kernel)⟩
theorem lw_p11 : lw_okq (⟨"LeaningTrees$Ways", "learn", "(I)V"⟩, 9) := ⟨⟨by decide +kernel, by decide +kernel⟩, List.mem_of_getElem? (i := 58) (by decide +kernel), List.mem_of_getElem? (i := 468) (by decide +kernel), List.mem_of_getElem? (i := 469) (by decide +kernel)⟩
theorem lw_p12 : lw_okq (⟨"LeaningTrees$Ways", "reach", "(II)V"⟩, 9) := ⟨⟨by decide +kernel, by decide +kernel⟩, List.mem_of_getElem? (i := 58) (by decide +kernel), List.mem_of_getElem? (i := 480) (by decide +kernel), List.mem_of_getElem? (i := 481) (by decide +kernel)⟩
theorem lw_p13 : lw_okq (⟨"LeaningTrees$Ways", "improve", "(IIZ)V"⟩, 9) := ⟨⟨by decide +kernel, by decide +kernel⟩, List.mem_of_getElem? (i := 58) (by decide +kernel), List.mem_of_getElem? (i := 501) (by decide +kernel), List.mem_of_getElem? (i := 502) (by decide +kernel)⟩
theorem lw_p14 : lw_okq (⟨"LeaningTrees$Order", "sumBelow", "(II)I"⟩, 3) := ⟨⟨by decide +kernel, by decide +kernel⟩, List.mem_of_getElem? (i := 42) (by decide +kernel), List.mem_of_getElem? (i := 513) (by decide +kernel), List.mem_of_getElem? (i := 514) (by decide +kernel)⟩
theorem lw_p15 : lw_okq (⟨"LeaningTrees", "lackOrTooMany", "(I)I"⟩, 10) := ⟨⟨by decide +kernel, by decide +kernel⟩, List.mem_of_getElem? (i := 14) (by decide +kernel), List.mem_of_getElem? (i := 586) (by decide +kernel), List.mem_of_getElem? (i := 587) (by decide +kernel)⟩
def lw_privs_1 : List (MethodName × Nat) := [(⟨"LeaningTrees$Forest", "growAll", "(III)I"⟩, 2), (⟨"LeaningTrees", "size", "()I"⟩, 10), (⟨"LeaningTrees", "becomeAndTell", "(I)I"⟩, 10), (⟨"LeaningTrees", "become", "(I)V"⟩, 10), (⟨"LeaningTrees", "isNode", "(I)Z"⟩, 10), (⟨"LeaningTrees$Forest", "top", "(III)I"⟩, 2), (⟨"LeaningTrees", "refusalOfTwo", "(II)I"⟩, 10), (⟨"LeaningTrees", "refusal", "(I)I"⟩, 10), (⟨"LeaningTrees", "lack", "(I)I"⟩, 10), (⟨"LeaningTrees$Order", "joinOf", "(II)I"⟩, 3), (⟨"LeaningTrees$Order", "meetOf", "(II)I"⟩, 3), (⟨"LeaningTrees$Ways", "learn", "(I)V"⟩, 9), (⟨"LeaningTrees$Ways", "reach", "(II)V"⟩, 9), (⟨"LeaningTrees$Ways", "improve", "(IIZ)V"⟩, 9), (⟨"LeaningTrees$Order", "sumBelow", "(II)I"⟩, 3), (⟨"LeaningTrees", "lackOrTooMany", "(I)I"⟩, 10)]
theorem lw_r1 : ∀ q ∈ lw_privs_1, lw_okq q := List.forall_mem_cons.mpr ⟨lw_p0, List.forall_mem_cons.mpr ⟨lw_p1, List.forall_mem_cons.mpr ⟨lw_p2, List.forall_mem_cons.mpr ⟨lw_p3, List.forall_mem_cons.mpr ⟨lw_p4, List.forall_mem_cons.mpr ⟨lw_p5, List.forall_mem_cons.mpr ⟨lw_p6, List.forall_mem_cons.mpr ⟨lw_p7, List.forall_mem_cons.mpr ⟨lw_p8, List.forall_mem_cons.mpr ⟨lw_p9, List.forall_mem_cons.mpr ⟨lw_p10, List.forall_mem_cons.mpr ⟨lw_p11, List.forall_mem_cons.mpr ⟨lw_p12, List.forall_mem_cons.mpr ⟨lw_p13, List.forall_mem_cons.mpr ⟨lw_p14, List.forall_mem_cons.mpr ⟨lw_p15, fun _ h => absurd h List.not_mem_nil⟩⟩⟩⟩⟩⟩⟩⟩⟩⟩⟩⟩⟩⟩⟩⟩
theorem lw_p16 : lw_okq (⟨"LeaningTrees$Forest", "sideBySide", "(III)I"⟩, 2) := ⟨⟨by decide +kernel, by decide +kernel⟩, List.mem_of_getElem? (i := 22) (by decide +kernel), List.mem_of_getElem? (i := 594) (by decide +kernel), List.mem_of_getElem? (i := 595) (by decide +kernel)⟩
theorem lw_p17 : lw_okq (⟨"LeaningTrees$Tape", "accepts", "(I)Z"⟩, 8) := ⟨⟨by decide +kernel, by decide +kernel⟩, List.mem_of_getElem? (i := 125) (by decide +kernel), List.mem_of_getElem? (i := 700) (by decide +kernel), List.mem_of_getElem? (i := 701) (by decide +kernel)⟩
theorem lw_p18 : lw_okq (⟨"LeaningTrees$Tape", "opensNode", "()Z"⟩, 8) := ⟨⟨by decide +kernel, by decide +kernel⟩, List.mem_of_getElem? (i := 125) (by decide +kernel), List.mem_of_getElem? (i := 704) (by decide +kernel), List.mem_of_getElem? (i := 705) (by decide +kernel)⟩
theorem lw_p19 : lw_okq (⟨"LeaningTrees$Tape", "awaitedNow", "()I"⟩, 8) := ⟨⟨by decide +kernel, by decide +kernel⟩, List.mem_of_getElem? (i := 125) (by decide +kernel), List.mem_of_getElem? (i := 708) (by decide +kernel), List.mem_of_getElem? (i := 709) (by decide +kernel)⟩
theorem lw_p20 : lw_okq (⟨"LeaningTrees$Tape", "staysNothing", "()Z"⟩, 8) := ⟨⟨by decide +kernel, by decide +kernel⟩, List.mem_of_getElem? (i := 125) (by decide +kernel), List.mem_of_getElem? (i := 712) (by decide +kernel), List.mem_of_getElem? (i := 713) (by decide +kernel)⟩
theorem lw_p21 : lw_okq (⟨"LeaningTrees$Tape", "endSubtree", "()V"⟩, 8) := ⟨⟨by decide +kernel, by decide +kernel⟩, List.mem_of_getElem? (i := 125) (by decide +kernel), List.mem_of_getElem? (i := 716) (by decide +kernel), List.mem_of_getElem? (i := 717) (by decide +kernel)⟩
theorem lw_p22 : lw_okq (⟨"LeaningTrees$Tape", "closesNode", "()Z"⟩, 8) := ⟨⟨by decide +kernel, by decide +kernel⟩, List.mem_of_getElem? (i := 125) (by decide +kernel), List.mem_of_getElem? (i := 720) (by decide +kernel), List.mem_of_getElem? (i := 721) (by decide +kernel)⟩
theorem lw_p23 : lw_okq (⟨"LeaningTrees$Tape", "isWhole", "()Z"⟩, 8) := ⟨⟨by decide +kernel, by decide +kernel⟩, List.mem_of_getElem? (i := 125) (by decide +kernel), List.mem_of_getElem? (i := 724) (by decide +kernel), List.mem_of_getElem? (i := 725) (by decide +kernel)⟩
theorem lw_p24 : lw_okq (⟨"LeaningTrees$Forest", "opening", "(II)I"⟩, 2) := ⟨⟨by decide +kernel, by decide +kernel⟩, List.mem_of_getElem? (i := 22) (by decide +kernel), List.mem_of_getElem? (i := 750) (by decide +kernel), List.mem_of_getElem? (i := 751) (by decide +kernel)⟩
theorem lw_p25 : lw_okq (⟨"LeaningTrees$Forest", "closing", "(II)I"⟩, 2) := ⟨⟨by decide +kernel, by decide +kernel⟩, List.mem_of_getElem? (i := 22) (by decide +kernel), List.mem_of_getElem? (i := 754) (by decide +kernel), List.mem_of_getElem? (i := 755) (by decide +kernel)⟩
theorem lw_p26 : lw_okq (⟨"LeaningTrees", "shelvesInUse", "()I"⟩, 10) := ⟨⟨by decide +kernel, by decide +kernel⟩, List.mem_of_getElem? (i := 14) (by decide +kernel), List.mem_of_getElem? (i := 771) (by decide +kernel), List.mem_of_getElem? (i := 772) (by decide +kernel)⟩
theorem lw_p27 : lw_okq (⟨"LeaningTreesModel", "becomes", "(II)V"⟩, 35) := ⟨⟨by decide +kernel, by decide +kernel⟩, List.mem_of_getElem? (i := 779) (by decide +kernel), List.mem_of_getElem? (i := 912) (by decide +kernel), List.mem_of_getElem? (i := 913) (by decide +kernel)⟩
theorem lw_p28 : lw_okq (⟨"LeaningTreesModel", "numberOf", "(II)I"⟩, 35) := ⟨⟨by decide +kernel, by decide +kernel⟩, List.mem_of_getElem? (i := 779) (by decide +kernel), List.mem_of_getElem? (i := 920) (by decide +kernel), List.mem_of_getElem? (i := 921) (by decide +kernel)⟩
theorem lw_p29 : lw_okq (⟨"LeaningTreesModel", "table", "(I)V"⟩, 35) := ⟨⟨by decide +kernel, by decide +kernel⟩, List.mem_of_getElem? (i := 779) (by decide +kernel), List.mem_of_getElem? (i := 924) (by decide +kernel), List.mem_of_getElem? (i := 925) (by decide +kernel)⟩
theorem lw_p30 : lw_okq (⟨"LeaningTreesModel", "isNode", "(I)Z"⟩, 35) := ⟨⟨by decide +kernel, by decide +kernel⟩, List.mem_of_getElem? (i := 779) (by decide +kernel), List.mem_of_getElem? (i := 932) (by decide +kernel), List.mem_of_getElem? (i := 933) (by decide +kernel)⟩
theorem lw_p31 : lw_okq (⟨"LeaningTreesModel", "looks", "(II)V"⟩, 35) := ⟨⟨by decide +kernel, by decide +kernel⟩, List.mem_of_getElem? (i := 779) (by decide +kernel), List.mem_of_getElem? (i := 937) (by decide +kernel), List.mem_of_getElem? (i := 938) (by decide +kernel)⟩
def lw_privs_2 : List (MethodName × Nat) := [(⟨"LeaningTrees$Forest", "sideBySide", "(III)I"⟩, 2), (⟨"LeaningTrees$Tape", "accepts", "(I)Z"⟩, 8), (⟨"LeaningTrees$Tape", "opensNode", "()Z"⟩, 8), (⟨"LeaningTrees$Tape", "awaitedNow", "()I"⟩, 8), (⟨"LeaningTrees$Tape", "staysNothing", "()Z"⟩, 8), (⟨"LeaningTrees$Tape", "endSubtree", "()V"⟩, 8), (⟨"LeaningTrees$Tape", "closesNode", "()Z"⟩, 8), (⟨"LeaningTrees$Tape", "isWhole", "()Z"⟩, 8), (⟨"LeaningTrees$Forest", "opening", "(II)I"⟩, 2), (⟨"LeaningTrees$Forest", "closing", "(II)I"⟩, 2), (⟨"LeaningTrees", "shelvesInUse", "()I"⟩, 10), (⟨"LeaningTreesModel", "becomes", "(II)V"⟩, 35), (⟨"LeaningTreesModel", "numberOf", "(II)I"⟩, 35), (⟨"LeaningTreesModel", "table", "(I)V"⟩, 35), (⟨"LeaningTreesModel", "isNode", "(I)Z"⟩, 35), (⟨"LeaningTreesModel", "looks", "(II)V"⟩, 35)]
theorem lw_r2 : ∀ q ∈ lw_privs_2, lw_okq q := List.forall_mem_cons.mpr ⟨lw_p16, List.forall_mem_cons.mpr ⟨lw_p17, List.forall_mem_cons.mpr ⟨lw_p18, List.forall_mem_cons.mpr ⟨lw_p19, List.forall_mem_cons.mpr ⟨lw_p20, List.forall_mem_cons.mpr ⟨lw_p21, List.forall_mem_cons.mpr ⟨lw_p22, List.forall_mem_cons.mpr ⟨lw_p23, List.forall_mem_cons.mpr ⟨lw_p24, List.forall_mem_cons.mpr ⟨lw_p25, List.forall_mem_cons.mpr ⟨lw_p26, List.forall_mem_cons.mpr ⟨lw_p27, List.forall_mem_cons.mpr ⟨lw_p28, List.forall_mem_cons.mpr ⟨lw_p29, List.forall_mem_cons.mpr ⟨lw_p30, List.forall_mem_cons.mpr ⟨lw_p31, fun _ h => absurd h List.not_mem_nil⟩⟩⟩⟩⟩⟩⟩⟩⟩⟩⟩⟩⟩⟩⟩⟩
theorem lw_p32 : lw_okq (⟨"LeaningTreesModel", "reads", "(IIIIII)I"⟩, 35) := ⟨⟨by decide +kernel, by decide +kernel⟩, List.mem_of_getElem? (i := 779) (by decide +kernel), List.mem_of_getElem? (i := 941) (by decide +kernel), List.mem_of_getElem? (i := 942) (by decide +kernel)⟩
theorem lw_p33 : lw_okq (⟨"LeaningTreesModel", "up", "(III)I"⟩, 35) := ⟨⟨by decide +kernel, by decide +kernel⟩, List.mem_of_getElem? (i := 779) (by decide +kernel), List.mem_of_getElem? (i := 962) (by decide +kernel), List.mem_of_getElem? (i := 963) (by decide +kernel)⟩
theorem lw_p34 : lw_okq (⟨"LeaningTreesModel", "down", "(III)I"⟩, 35) := ⟨⟨by decide +kernel, by decide +kernel⟩, List.mem_of_getElem? (i := 779) (by decide +kernel), List.mem_of_getElem? (i := 973) (by decide +kernel), List.mem_of_getElem? (i := 974) (by decide +kernel)⟩
theorem lw_p35 : lw_okq (⟨"LeaningTreesModel", "mirrored", "(II)I"⟩, 35) := ⟨⟨by decide +kernel, by decide +kernel⟩, List.mem_of_getElem? (i := 779) (by decide +kernel), List.mem_of_getElem? (i := 987) (by decide +kernel), List.mem_of_getElem? (i := 988) (by decide +kernel)⟩
theorem lw_p36 : lw_okq (⟨"LeaningTreesModel", "barOf", "(I)I"⟩, 35) := ⟨⟨by decide +kernel, by decide +kernel⟩, List.mem_of_getElem? (i := 779) (by decide +kernel), List.mem_of_getElem? (i := 1002) (by decide +kernel), List.mem_of_getElem? (i := 1003) (by decide +kernel)⟩
theorem lw_p37 : lw_okq (⟨"LeaningTreesModel", "bound", "(IIZ)I"⟩, 35) := ⟨⟨by decide +kernel, by decide +kernel⟩, List.mem_of_getElem? (i := 779) (by decide +kernel), List.mem_of_getElem? (i := 1013) (by decide +kernel), List.mem_of_getElem? (i := 1014) (by decide +kernel)⟩
theorem lw_p38 : lw_okq (⟨"LeaningTreesModel", "isBetween", "(III)Z"⟩, 35) := ⟨⟨by decide +kernel, by decide +kernel⟩, List.mem_of_getElem? (i := 779) (by decide +kernel), List.mem_of_getElem? (i := 1025) (by decide +kernel), List.mem_of_getElem? (i := 1026) (by decide +kernel)⟩
theorem lw_p39 : lw_okq (⟨"LeaningTreesModel", "measure", "(IZ)V"⟩, 35) := ⟨⟨by decide +kernel, by decide +kernel⟩, List.mem_of_getElem? (i := 779) (by decide +kernel), List.mem_of_getElem? (i := 1033) (by decide +kernel), List.mem_of_getElem? (i := 1034) (by decide +kernel)⟩
theorem lw_p40 : lw_okq (⟨"LeaningTreesModel", "firstTurn", "(I)I"⟩, 35) := ⟨⟨by decide +kernel, by decide +kernel⟩, List.mem_of_getElem? (i := 779) (by decide +kernel), List.mem_of_getElem? (i := 1037) (by decide +kernel), List.mem_of_getElem? (i := 1038) (by decide +kernel)⟩
theorem lw_p41 : lw_okq (⟨"LeaningTreesModel", "longest", "(I)I"⟩, 35) := ⟨⟨by decide +kernel, by decide +kernel⟩, List.mem_of_getElem? (i := 779) (by decide +kernel), List.mem_of_getElem? (i := 1045) (by decide +kernel), List.mem_of_getElem? (i := 1046) (by decide +kernel)⟩
theorem lw_p42 : lw_okq (⟨"LeaningTreesModel", "makes", "(II)V"⟩, 35) := ⟨⟨by decide +kernel, by decide +kernel⟩, List.mem_of_getElem? (i := 779) (by decide +kernel), List.mem_of_getElem? (i := 1111) (by decide +kernel), List.mem_of_getElem? (i := 1112) (by decide +kernel)⟩
theorem lw_p43 : lw_okq (⟨"LeaningTreesModel", "sees", "(Z)Z"⟩, 35) := ⟨⟨by decide +kernel, by decide +kernel⟩, List.mem_of_getElem? (i := 779) (by decide +kernel), List.mem_of_getElem? (i := 1147) (by decide +kernel), List.mem_of_getElem? (i := 1148) (by decide +kernel)⟩
theorem lw_p44 : lw_okq (⟨"LeaningTreesModel", "sign", "()I"⟩, 35) := ⟨⟨by decide +kernel, by decide +kernel⟩, List.mem_of_getElem? (i := 779) (by decide +kernel), List.mem_of_getElem? (i := 1151) (by decide +kernel), List.mem_of_getElem? (i := 1152) (by decide +kernel)⟩
theorem lw_p45 : lw_okq (⟨"LeaningTreesModel", "write", "(I)V"⟩, 35) := ⟨⟨by decide +kernel, by decide +kernel⟩, List.mem_of_getElem? (i := 779) (by decide +kernel), List.mem_of_getElem? (i := 1159) (by decide +kernel), List.mem_of_getElem? (i := 1160) (by decide +kernel)⟩
def lw_privs_3 : List (MethodName × Nat) := [(⟨"LeaningTreesModel", "reads", "(IIIIII)I"⟩, 35), (⟨"LeaningTreesModel", "up", "(III)I"⟩, 35), (⟨"LeaningTreesModel", "down", "(III)I"⟩, 35), (⟨"LeaningTreesModel", "mirrored", "(II)I"⟩, 35), (⟨"LeaningTreesModel", "barOf", "(I)I"⟩, 35), (⟨"LeaningTreesModel", "bound", "(IIZ)I"⟩, 35), (⟨"LeaningTreesModel", "isBetween", "(III)Z"⟩, 35), (⟨"LeaningTreesModel", "measure", "(IZ)V"⟩, 35), (⟨"LeaningTreesModel", "firstTurn", "(I)I"⟩, 35), (⟨"LeaningTreesModel", "longest", "(I)I"⟩, 35), (⟨"LeaningTreesModel", "makes", "(II)V"⟩, 35), (⟨"LeaningTreesModel", "sees", "(Z)Z"⟩, 35), (⟨"LeaningTreesModel", "sign", "()I"⟩, 35), (⟨"LeaningTreesModel", "write", "(I)V"⟩, 35)]
theorem lw_r3 : ∀ q ∈ lw_privs_3, lw_okq q := List.forall_mem_cons.mpr ⟨lw_p32, List.forall_mem_cons.mpr ⟨lw_p33, List.forall_mem_cons.mpr ⟨lw_p34, List.forall_mem_cons.mpr ⟨lw_p35, List.forall_mem_cons.mpr ⟨lw_p36, List.forall_mem_cons.mpr ⟨lw_p37, List.forall_mem_cons.mpr ⟨lw_p38, List.forall_mem_cons.mpr ⟨lw_p39, List.forall_mem_cons.mpr ⟨lw_p40, List.forall_mem_cons.mpr ⟨lw_p41, List.forall_mem_cons.mpr ⟨lw_p42, List.forall_mem_cons.mpr ⟨lw_p43, List.forall_mem_cons.mpr ⟨lw_p44, List.forall_mem_cons.mpr ⟨lw_p45, fun _ h => absurd h List.not_mem_nil⟩⟩⟩⟩⟩⟩⟩⟩⟩⟩⟩⟩⟩⟩
def lw_privs : List (MethodName × Nat) := lw_privs_1 ++ (lw_privs_2 ++ (lw_privs_3))
def lw_tbl : List Cond := k2_sels lw_privs ++ tables_1
theorem lw_privs_ok : ∀ q ∈ lw_privs, lw_okq q := by
  show ∀ q ∈ lw_privs_1 ++ (lw_privs_2 ++ (lw_privs_3)), lw_okq q
  exact List.forall_mem_append.mpr ⟨lw_r1, List.forall_mem_append.mpr ⟨lw_r2, lw_r3⟩⟩
end
section
def RX0 : String := "LeaningTrees$Forest"
def TX0 : u_T := fun k => match k with
  | 0 => ("LeaningTrees$Forest", "codes", "[I", true)
  | _ => ("LeaningTrees$Forest", "sizes", "[I", true)
def tyX0 : Nat → FieldType := fun k => match k with
  | 0 => .array .int
  | _ => .array .int
abbrev wsX00 : List Cond := u_ws RX0 TX0 2
theorem nmX0 : ∀ a, a < 2 → ∀ b, b < 2 → a ≠ b → (TX0 a).2.1 ≠ (TX0 b).2.1 := by decide +kernel
theorem tyX0_ok : ∀ k, k < 2 → parseFieldDescriptor (TX0 k).2.2.1 = some (tyX0 k) := by decide +kernel
abbrev cX0_init : ByteArray := prog_2_method_1_code
def yX0_init : MethodName := ⟨RX0, "<init>", "()V"⟩
abbrev cX0_growAll : ByteArray := prog_2_method_2_code
def yX0_growAll : MethodName := ⟨RX0, "growAll", "(III)I"⟩
abbrev cX0_isSize : ByteArray := prog_2_method_3_code
def yX0_isSize : MethodName := ⟨RX0, "isSize", "(I)Z"⟩
abbrev cX0_firstOf : ByteArray := prog_2_method_4_code
def yX0_firstOf : MethodName := ⟨RX0, "firstOf", "(I)I"⟩
abbrev cX0_lastOf : ByteArray := prog_2_method_5_code
def yX0_lastOf : MethodName := ⟨RX0, "lastOf", "(I)I"⟩
abbrev cX0_howMany : ByteArray := prog_2_method_6_code
def yX0_howMany : MethodName := ⟨RX0, "howMany", "(I)I"⟩
abbrev cX0_sizeOf : ByteArray := prog_2_method_7_code
def yX0_sizeOf : MethodName := ⟨RX0, "sizeOf", "(I)I"⟩
abbrev cX0_codeOf : ByteArray := prog_2_method_8_code
def yX0_codeOf : MethodName := ⟨RX0, "codeOf", "(I)I"⟩
abbrev cX0_numberOf : ByteArray := prog_2_method_9_code
def yX0_numberOf : MethodName := ⟨RX0, "numberOf", "(I)I"⟩
abbrev cX0_find : ByteArray := prog_2_method_10_code
def yX0_find : MethodName := ⟨RX0, "find", "(II)I"⟩
abbrev cX0_findDigits : ByteArray := prog_2_method_11_code
def yX0_findDigits : MethodName := ⟨RX0, "findDigits", "(II)I"⟩
abbrev cX0_asDigits : ByteArray := prog_2_method_12_code
def yX0_asDigits : MethodName := ⟨RX0, "asDigits", "(I)I"⟩
abbrev cX0_digitOf : ByteArray := prog_2_method_13_code
def yX0_digitOf : MethodName := ⟨RX0, "digitOf", "(III)I"⟩
abbrev cX0_digitAt : ByteArray := prog_2_method_14_code
def yX0_digitAt : MethodName := ⟨RX0, "digitAt", "(III)I"⟩
abbrev cX0_rightSize : ByteArray := prog_2_method_15_code
def yX0_rightSize : MethodName := ⟨RX0, "rightSize", "(II)I"⟩
abbrev cX0_end : ByteArray := prog_2_method_16_code
def yX0_end : MethodName := ⟨RX0, "end", "(II)I"⟩
abbrev cX0_leftSize : ByteArray := prog_2_method_17_code
def yX0_leftSize : MethodName := ⟨RX0, "leftSize", "(II)I"⟩
abbrev cX0_parent : ByteArray := prog_2_method_18_code
def yX0_parent : MethodName := ⟨RX0, "parent", "(II)I"⟩
abbrev cX0_isLeftChild : ByteArray := prog_2_method_19_code
def yX0_isLeftChild : MethodName := ⟨RX0, "isLeftChild", "(II)Z"⟩
abbrev cX0_leftChild : ByteArray := prog_2_method_20_code
def yX0_leftChild : MethodName := ⟨RX0, "leftChild", "(II)I"⟩
abbrev cX0_rightChild : ByteArray := prog_2_method_21_code
def yX0_rightChild : MethodName := ⟨RX0, "rightChild", "(II)I"⟩
abbrev cX0_top : ByteArray := prog_2_method_22_code
def yX0_top : MethodName := ⟨RX0, "top", "(III)I"⟩
abbrev cX0_depth : ByteArray := prog_2_method_23_code
def yX0_depth : MethodName := ⟨RX0, "depth", "(II)I"⟩
abbrev cX0_turnedUp : ByteArray := prog_2_method_24_code
def yX0_turnedUp : MethodName := ⟨RX0, "turnedUp", "(II)I"⟩
abbrev cX0_turnedBack : ByteArray := prog_2_method_25_code
def yX0_turnedBack : MethodName := ⟨RX0, "turnedBack", "(II)I"⟩
abbrev cX0_turnedAsTold : ByteArray := prog_2_method_26_code
def yX0_turnedAsTold : MethodName := ⟨RX0, "turnedAsTold", "(IJ)I"⟩
abbrev cX0_leftChildren : ByteArray := prog_2_method_27_code
def yX0_leftChildren : MethodName := ⟨RX0, "leftChildren", "(I)I"⟩
abbrev cX0_withRightChild : ByteArray := prog_2_method_28_code
def yX0_withRightChild : MethodName := ⟨RX0, "withRightChild", "(I)I"⟩
abbrev cX0_howManyWith : ByteArray := prog_2_method_29_code
def yX0_howManyWith : MethodName := ⟨RX0, "howManyWith", "(II)I"⟩
abbrev cX0_leastWith : ByteArray := prog_2_method_30_code
def yX0_leastWith : MethodName := ⟨RX0, "leastWith", "(II)I"⟩
abbrev cX0_greatestWith : ByteArray := prog_2_method_31_code
def yX0_greatestWith : MethodName := ⟨RX0, "greatestWith", "(II)I"⟩
abbrev cX0_mirrored : ByteArray := prog_2_method_32_code
def yX0_mirrored : MethodName := ⟨RX0, "mirrored", "(I)I"⟩
abbrev cX0_setOver : ByteArray := prog_2_method_33_code
def yX0_setOver : MethodName := ⟨RX0, "setOver", "(II)I"⟩
abbrev cX0_setUnder : ByteArray := prog_2_method_34_code
def yX0_setUnder : MethodName := ⟨RX0, "setUnder", "(II)I"⟩
abbrev cX0_sideBySide : ByteArray := prog_2_method_35_code
def yX0_sideBySide : MethodName := ⟨RX0, "sideBySide", "(III)I"⟩
abbrev cX0_textLength : ByteArray := prog_2_method_36_code
def yX0_textLength : MethodName := ⟨RX0, "textLength", "(I)I"⟩
abbrev cX0_textByte : ByteArray := prog_2_method_37_code
def yX0_textByte : MethodName := ⟨RX0, "textByte", "(II)I"⟩
abbrev cX0_opening : ByteArray := prog_2_method_38_code
def yX0_opening : MethodName := ⟨RX0, "opening", "(II)I"⟩
abbrev cX0_closing : ByteArray := prog_2_method_39_code
def yX0_closing : MethodName := ⟨RX0, "closing", "(II)I"⟩
def RX1 : String := "LeaningTrees$Lists"
def TX1 : u_T := fun k => match k with
  | 0 => ("LeaningTrees$Lists", "longs", "[[J", true)
  | _ => ("LeaningTrees$Lists", "lengths", "[I", true)
def tyX1 : Nat → FieldType := fun k => match k with
  | 0 => .array (.array .long)
  | _ => .array .int
abbrev wsX10 : List Cond := u_ws RX1 TX1 2
theorem nmX1 : ∀ a, a < 2 → ∀ b, b < 2 → a ≠ b → (TX1 a).2.1 ≠ (TX1 b).2.1 := by decide +kernel
theorem tyX1_ok : ∀ k, k < 2 → parseFieldDescriptor (TX1 k).2.2.1 = some (tyX1 k) := by decide +kernel
abbrev cX1_init : ByteArray := prog_3_method_1_code
def yX1_init : MethodName := ⟨RX1, "<init>", "()V"⟩
abbrev cX1_isList : ByteArray := prog_3_method_2_code
def yX1_isList : MethodName := ⟨RX1, "isList", "(I)Z"⟩
abbrev cX1_lengthOf : ByteArray := prog_3_method_3_code
def yX1_lengthOf : MethodName := ⟨RX1, "lengthOf", "(I)I"⟩
abbrev cX1_isThere : ByteArray := prog_3_method_4_code
def yX1_isThere : MethodName := ⟨RX1, "isThere", "(I)Z"⟩
abbrev cX1_isPlace : ByteArray := prog_3_method_5_code
def yX1_isPlace : MethodName := ⟨RX1, "isPlace", "(II)Z"⟩
abbrev cX1_renew : ByteArray := prog_3_method_6_code
def yX1_renew : MethodName := ⟨RX1, "renew", "(II)V"⟩
abbrev cX1_store : ByteArray := prog_3_method_7_code
def yX1_store : MethodName := ⟨RX1, "store", "(IIJ)V"⟩
abbrev cX1_valueAt : ByteArray := prog_3_method_8_code
def yX1_valueAt : MethodName := ⟨RX1, "valueAt", "(II)J"⟩
abbrev cX1_howManyThere : ByteArray := prog_3_method_9_code
def yX1_howManyThere : MethodName := ⟨RX1, "howManyThere", "()I"⟩
def RX2 : String := "LeaningTrees$Order"
def TX2 : u_T := fun k => match k with
  | 0 => ("LeaningTrees$Order", "forest", "LLeaningTrees$Forest;", true)
  | 1 => ("LeaningTrees$Order", "markedCodes", "[I", true)
  | _ => ("LeaningTrees$Order", "marks", "[I", true)
def tyX2 : Nat → FieldType := fun k => match k with
  | 0 => .object "LeaningTrees$Forest"
  | 1 => .array .int
  | _ => .array .int
abbrev wsX20 : List Cond := u_ws RX2 TX2 3
theorem nmX2 : ∀ a, a < 3 → ∀ b, b < 3 → a ≠ b → (TX2 a).2.1 ≠ (TX2 b).2.1 := by decide +kernel
theorem tyX2_ok : ∀ k, k < 3 → parseFieldDescriptor (TX2 k).2.2.1 = some (tyX2 k) := by decide +kernel
abbrev cX2_init : ByteArray := prog_4_method_1_code
def yX2_init : MethodName := ⟨RX2, "<init>", "(LLeaningTrees$Forest;)V"⟩
abbrev cX2_noMore : ByteArray := prog_4_method_2_code
def yX2_noMore : MethodName := ⟨RX2, "noMore", "(II)Z"⟩
abbrev cX2_isBelow : ByteArray := prog_4_method_3_code
def yX2_isBelow : MethodName := ⟨RX2, "isBelow", "(II)Z"⟩
abbrev cX2_isWithin : ByteArray := prog_4_method_4_code
def yX2_isWithin : MethodName := ⟨RX2, "isWithin", "(III)Z"⟩
abbrev cX2_meetOrJoin : ByteArray := prog_4_method_5_code
def yX2_meetOrJoin : MethodName := ⟨RX2, "meetOrJoin", "(IIZ)I"⟩
abbrev cX2_meetOf : ByteArray := prog_4_method_6_code
def yX2_meetOf : MethodName := ⟨RX2, "meetOf", "(II)I"⟩
abbrev cX2_joinOf : ByteArray := prog_4_method_7_code
def yX2_joinOf : MethodName := ⟨RX2, "joinOf", "(II)I"⟩
abbrev cX2_howManyBetween : ByteArray := prog_4_method_8_code
def yX2_howManyBetween : MethodName := ⟨RX2, "howManyBetween", "(II)I"⟩
abbrev cX2_nthBetween : ByteArray := prog_4_method_9_code
def yX2_nthBetween : MethodName := ⟨RX2, "nthBetween", "(III)I"⟩
abbrev cX2_markOf : ByteArray := prog_4_method_10_code
def yX2_markOf : MethodName := ⟨RX2, "markOf", "(II)I"⟩
abbrev cX2_sumBelow : ByteArray := prog_4_method_11_code
def yX2_sumBelow : MethodName := ⟨RX2, "sumBelow", "(II)I"⟩
abbrev cX2_howManyPairs : ByteArray := prog_4_method_12_code
def yX2_howManyPairs : MethodName := ⟨RX2, "howManyPairs", "(I)I"⟩
def RX3 : String := "LeaningTrees$Steps"
def TX3 : u_T := fun k => match k with
  | 0 => ("LeaningTrees$Steps", "trees", "[I", true)
  | _ => ("LeaningTrees$Steps", "held", "I", false)
def tyX3 : Nat → FieldType := fun k => match k with
  | 0 => .array .int
  | _ => .int
abbrev wsX30 : List Cond := u_ws RX3 TX3 2
theorem nmX3 : ∀ a, a < 2 → ∀ b, b < 2 → a ≠ b → (TX3 a).2.1 ≠ (TX3 b).2.1 := by decide +kernel
theorem tyX3_ok : ∀ k, k < 2 → parseFieldDescriptor (TX3 k).2.2.1 = some (tyX3 k) := by decide +kernel
abbrev cX3_init : ByteArray := prog_5_method_1_code
def yX3_init : MethodName := ⟨RX3, "<init>", "()V"⟩
abbrev cX3_add : ByteArray := prog_5_method_2_code
def yX3_add : MethodName := ⟨RX3, "add", "(I)V"⟩
abbrev cX3_takeLatest : ByteArray := prog_5_method_3_code
def yX3_takeLatest : MethodName := ⟨RX3, "takeLatest", "()I"⟩
abbrev cX3_clear : ByteArray := prog_5_method_4_code
def yX3_clear : MethodName := ⟨RX3, "clear", "()V"⟩
abbrev cX3_held : ByteArray := prog_5_method_5_code
def yX3_held : MethodName := ⟨RX3, "held", "()I"⟩
def RX4 : String := "LeaningTrees$Tape"
def TX4 : u_T := fun k => match k with
  | 0 => ("LeaningTrees$Tape", "bytes", "[I", true)
  | 1 => ("LeaningTrees$Tape", "length", "I", false)
  | 2 => ("LeaningTrees$Tape", "awaited", "[I", true)
  | 3 => ("LeaningTrees$Tape", "openNodes", "[I", true)
  | 4 => ("LeaningTrees$Tape", "rightSizes", "[I", true)
  | 5 => ("LeaningTrees$Tape", "open", "I", false)
  | 6 => ("LeaningTrees$Tape", "opened", "I", false)
  | _ => ("LeaningTrees$Tape", "numbered", "I", false)
def tyX4 : Nat → FieldType := fun k => match k with
  | 0 => .array .int
  | 1 => .int
  | 2 => .array .int
  | 3 => .array .int
  | 4 => .array .int
  | 5 => .int
  | 6 => .int
  | _ => .int
abbrev wsX40 : List Cond := u_ws RX4 TX4 8
theorem nmX4 : ∀ a, a < 8 → ∀ b, b < 8 → a ≠ b → (TX4 a).2.1 ≠ (TX4 b).2.1 := by decide +kernel
theorem tyX4_ok : ∀ k, k < 8 → parseFieldDescriptor (TX4 k).2.2.1 = some (tyX4 k) := by decide +kernel
abbrev cX4_init : ByteArray := prog_6_method_1_code
def yX4_init : MethodName := ⟨RX4, "<init>", "()V"⟩
abbrev cX4_length : ByteArray := prog_6_method_2_code
def yX4_length : MethodName := ⟨RX4, "length", "()I"⟩
abbrev cX4_clear : ByteArray := prog_6_method_3_code
def yX4_clear : MethodName := ⟨RX4, "clear", "()V"⟩
abbrev cX4_append : ByteArray := prog_6_method_4_code
def yX4_append : MethodName := ⟨RX4, "append", "(I)Z"⟩
abbrev cX4_parse : ByteArray := prog_6_method_5_code
def yX4_parse : MethodName := ⟨RX4, "parse", "()I"⟩
abbrev cX4_parsedNodes : ByteArray := prog_6_method_6_code
def yX4_parsedNodes : MethodName := ⟨RX4, "parsedNodes", "()I"⟩
abbrev cX4_parsedCode : ByteArray := prog_6_method_7_code
def yX4_parsedCode : MethodName := ⟨RX4, "parsedCode", "()I"⟩
abbrev cX4_isWhole : ByteArray := prog_6_method_8_code
def yX4_isWhole : MethodName := ⟨RX4, "isWhole", "()Z"⟩
abbrev cX4_accepts : ByteArray := prog_6_method_9_code
def yX4_accepts : MethodName := ⟨RX4, "accepts", "(I)Z"⟩
abbrev cX4_awaitedNow : ByteArray := prog_6_method_10_code
def yX4_awaitedNow : MethodName := ⟨RX4, "awaitedNow", "()I"⟩
abbrev cX4_opensNode : ByteArray := prog_6_method_11_code
def yX4_opensNode : MethodName := ⟨RX4, "opensNode", "()Z"⟩
abbrev cX4_staysNothing : ByteArray := prog_6_method_12_code
def yX4_staysNothing : MethodName := ⟨RX4, "staysNothing", "()Z"⟩
abbrev cX4_closesNode : ByteArray := prog_6_method_13_code
def yX4_closesNode : MethodName := ⟨RX4, "closesNode", "()Z"⟩
abbrev cX4_endSubtree : ByteArray := prog_6_method_14_code
def yX4_endSubtree : MethodName := ⟨RX4, "endSubtree", "()V"⟩
def RX5 : String := "LeaningTrees$Ways"
def TX5 : u_T := fun k => match k with
  | 0 => ("LeaningTrees$Ways", "forest", "LLeaningTrees$Forest;", true)
  | 1 => ("LeaningTrees$Ways", "ups", "[I", true)
  | 2 => ("LeaningTrees$Ways", "backs", "[I", true)
  | 3 => ("LeaningTrees$Ways", "learned", "[Z", true)
  | 4 => ("LeaningTrees$Ways", "turns", "[I", true)
  | 5 => ("LeaningTrees$Ways", "queue", "[I", true)
  | 6 => ("LeaningTrees$Ways", "turnsUp", "[I", true)
  | 7 => ("LeaningTrees$Ways", "queued", "I", false)
  | _ => ("LeaningTrees$Ways", "measured", "I", false)
def tyX5 : Nat → FieldType := fun k => match k with
  | 0 => .object "LeaningTrees$Forest"
  | 1 => .array .int
  | 2 => .array .int
  | 3 => .array .boolean
  | 4 => .array .int
  | 5 => .array .int
  | 6 => .array .int
  | 7 => .int
  | _ => .int
abbrev wsX50 : List Cond := u_ws RX5 TX5 9
theorem nmX5 : ∀ a, a < 9 → ∀ b, b < 9 → a ≠ b → (TX5 a).2.1 ≠ (TX5 b).2.1 := by decide +kernel
theorem tyX5_ok : ∀ k, k < 9 → parseFieldDescriptor (TX5 k).2.2.1 = some (tyX5 k) := by decide +kernel
abbrev cX5_init : ByteArray := prog_7_method_1_code
def yX5_init : MethodName := ⟨RX5, "<init>", "(LLeaningTrees$Forest;)V"⟩
abbrev cX5_isTree : ByteArray := prog_7_method_2_code
def yX5_isTree : MethodName := ⟨RX5, "isTree", "(I)Z"⟩
abbrev cX5_turnPlace : ByteArray := prog_7_method_3_code
def yX5_turnPlace : MethodName := ⟨RX5, "turnPlace", "(II)I"⟩
abbrev cX5_learn : ByteArray := prog_7_method_4_code
def yX5_learn : MethodName := ⟨RX5, "learn", "(I)V"⟩
abbrev cX5_measure : ByteArray := prog_7_method_5_code
def yX5_measure : MethodName := ⟨RX5, "measure", "(I)V"⟩
abbrev cX5_reach : ByteArray := prog_7_method_6_code
def yX5_reach : MethodName := ⟨RX5, "reach", "(II)V"⟩
abbrev cX5_turnsFrom : ByteArray := prog_7_method_7_code
def yX5_turnsFrom : MethodName := ⟨RX5, "turnsFrom", "(I)I"⟩
abbrev cX5_firstTurn : ByteArray := prog_7_method_8_code
def yX5_firstTurn : MethodName := ⟨RX5, "firstTurn", "(I)I"⟩
abbrev cX5_farthest : ByteArray := prog_7_method_9_code
def yX5_farthest : MethodName := ⟨RX5, "farthest", "()I"⟩
abbrev cX5_howManyFarthest : ByteArray := prog_7_method_10_code
def yX5_howManyFarthest : MethodName := ⟨RX5, "howManyFarthest", "()I"⟩
abbrev cX5_leastFarthest : ByteArray := prog_7_method_11_code
def yX5_leastFarthest : MethodName := ⟨RX5, "leastFarthest", "()I"⟩
abbrev cX5_turnsUpAlone : ByteArray := prog_7_method_12_code
def yX5_turnsUpAlone : MethodName := ⟨RX5, "turnsUpAlone", "(IIZ)I"⟩
abbrev cX5_improve : ByteArray := prog_7_method_13_code
def yX5_improve : MethodName := ⟨RX5, "improve", "(IIZ)V"⟩
def RX6 : String := "LeaningTrees"
def TX6 : u_T := fun k => match k with
  | 0 => ("LeaningTrees", "forest", "LLeaningTrees$Forest;", true)
  | 1 => ("LeaningTrees", "order", "LLeaningTrees$Order;", true)
  | 2 => ("LeaningTrees", "ways", "LLeaningTrees$Ways;", true)
  | 3 => ("LeaningTrees", "steps", "LLeaningTrees$Steps;", true)
  | 4 => ("LeaningTrees", "lists", "LLeaningTrees$Lists;", true)
  | 5 => ("LeaningTrees", "tape", "LLeaningTrees$Tape;", true)
  | 6 => ("LeaningTrees", "shelves", "[I", true)
  | 7 => ("LeaningTrees", "imageShelves", "[I", true)
  | 8 => ("LeaningTrees", "imageTree", "I", false)
  | _ => ("LeaningTrees", "tree", "I", false)
def tyX6 : Nat → FieldType := fun k => match k with
  | 0 => .object "LeaningTrees$Forest"
  | 1 => .object "LeaningTrees$Order"
  | 2 => .object "LeaningTrees$Ways"
  | 3 => .object "LeaningTrees$Steps"
  | 4 => .object "LeaningTrees$Lists"
  | 5 => .object "LeaningTrees$Tape"
  | 6 => .array .int
  | 7 => .array .int
  | 8 => .int
  | _ => .int
abbrev wsX60 : List Cond := u_ws RX6 TX6 10
theorem nmX6 : ∀ a, a < 10 → ∀ b, b < 10 → a ≠ b → (TX6 a).2.1 ≠ (TX6 b).2.1 := by decide +kernel
theorem tyX6_ok : ∀ k, k < 10 → parseFieldDescriptor (TX6 k).2.2.1 = some (tyX6 k) := by decide +kernel
abbrev cX6_init : ByteArray := prog_1_method_1_code
def yX6_init : MethodName := ⟨RX6, "<init>", "()V"⟩
abbrev cX6_nodes : ByteArray := prog_1_method_2_code
def yX6_nodes : MethodName := ⟨RX6, "nodes", "(I)I"⟩
abbrev cX6_row : ByteArray := prog_1_method_3_code
def yX6_row : MethodName := ⟨RX6, "row", "(I)I"⟩
abbrev cX6_of : ByteArray := prog_1_method_4_code
def yX6_of : MethodName := ⟨RX6, "of", "(II)I"⟩
abbrev cX6_number : ByteArray := prog_1_method_5_code
def yX6_number : MethodName := ⟨RX6, "number", "(I)I"⟩
abbrev cX6_which : ByteArray := prog_1_method_6_code
def yX6_which : MethodName := ⟨RX6, "which", "()I"⟩
abbrev cX6_many : ByteArray := prog_1_method_7_code
def yX6_many : MethodName := ⟨RX6, "many", "(I)I"⟩
abbrev cX6_digits : ByteArray := prog_1_method_8_code
def yX6_digits : MethodName := ⟨RX6, "digits", "()I"⟩
abbrev cX6_turn : ByteArray := prog_1_method_9_code
def yX6_turn : MethodName := ⟨RX6, "turn", "(I)I"⟩
abbrev cX6_back : ByteArray := prog_1_method_10_code
def yX6_back : MethodName := ⟨RX6, "back", "(I)I"⟩
abbrev cX6_mayTurn : ByteArray := prog_1_method_11_code
def yX6_mayTurn : MethodName := ⟨RX6, "mayTurn", "(I)I"⟩
abbrev cX6_mirror : ByteArray := prog_1_method_12_code
def yX6_mirror : MethodName := ⟨RX6, "mirror", "()I"⟩
abbrev cX6_off : ByteArray := prog_1_method_13_code
def yX6_off : MethodName := ⟨RX6, "off", "()I"⟩
abbrev cX6_below : ByteArray := prog_1_method_14_code
def yX6_below : MethodName := ⟨RX6, "below", "(II)I"⟩
abbrev cX6_meet : ByteArray := prog_1_method_15_code
def yX6_meet : MethodName := ⟨RX6, "meet", "(II)I"⟩
abbrev cX6_meetAll : ByteArray := prog_1_method_16_code
def yX6_meetAll : MethodName := ⟨RX6, "meetAll", "(I)I"⟩
abbrev cX6_between : ByteArray := prog_1_method_17_code
def yX6_between : MethodName := ⟨RX6, "between", "(II)I"⟩
abbrev cX6_way : ByteArray := prog_1_method_18_code
def yX6_way : MethodName := ⟨RX6, "way", "(II)I"⟩
abbrev cX6_chain : ByteArray := prog_1_method_19_code
def yX6_chain : MethodName := ⟨RX6, "chain", "(II)I"⟩
abbrev cX6_mark : ByteArray := prog_1_method_20_code
def yX6_mark : MethodName := ⟨RX6, "mark", "(I)I"⟩
abbrev cX6_pairs : ByteArray := prog_1_method_21_code
def yX6_pairs : MethodName := ⟨RX6, "pairs", "(I)I"⟩
abbrev cX6_far : ByteArray := prog_1_method_22_code
def yX6_far : MethodName := ⟨RX6, "far", "(I)I"⟩
abbrev cX6_canopy : ByteArray := prog_1_method_23_code
def yX6_canopy : MethodName := ⟨RX6, "canopy", "()I"⟩
abbrev cX6_inClass : ByteArray := prog_1_method_24_code
def yX6_inClass : MethodName := ⟨RX6, "inClass", "(II)I"⟩
abbrev cX6_likeness : ByteArray := prog_1_method_25_code
def yX6_likeness : MethodName := ⟨RX6, "likeness", "(I)I"⟩
abbrev cX6_keep : ByteArray := prog_1_method_26_code
def yX6_keep : MethodName := ⟨RX6, "keep", "(I)I"⟩
abbrev cX6_lay : ByteArray := prog_1_method_27_code
def yX6_lay : MethodName := ⟨RX6, "lay", "(I)I"⟩
abbrev cX6_lose : ByteArray := prog_1_method_28_code
def yX6_lose : MethodName := ⟨RX6, "lose", "(I)I"⟩
abbrev cX6_over : ByteArray := prog_1_method_29_code
def yX6_over : MethodName := ⟨RX6, "over", "(I)I"⟩
abbrev cX6_under : ByteArray := prog_1_method_30_code
def yX6_under : MethodName := ⟨RX6, "under", "(I)I"⟩
abbrev cX6_shelf : ByteArray := prog_1_method_31_code
def yX6_shelf : MethodName := ⟨RX6, "shelf", "(II)I"⟩
abbrev cX6_list : ByteArray := prog_1_method_32_code
def yX6_list : MethodName := ⟨RX6, "list", "(II)I"⟩
abbrev cX6_put : ByteArray := prog_1_method_33_code
def yX6_put : MethodName := ⟨RX6, "put", "(IIJ)I"⟩
abbrev cX6_get : ByteArray := prog_1_method_34_code
def yX6_get : MethodName := ⟨RX6, "get", "(II)J"⟩
abbrev cX6_play : ByteArray := prog_1_method_35_code
def yX6_play : MethodName := ⟨RX6, "play", "(I)I"⟩
abbrev cX6_film : ByteArray := prog_1_method_36_code
def yX6_film : MethodName := ⟨RX6, "film", "(II)I"⟩
abbrev cX6_feed : ByteArray := prog_1_method_37_code
def yX6_feed : MethodName := ⟨RX6, "feed", "(I)I"⟩
abbrev cX6_wipe : ByteArray := prog_1_method_38_code
def yX6_wipe : MethodName := ⟨RX6, "wipe", "()I"⟩
abbrev cX6_read : ByteArray := prog_1_method_39_code
def yX6_read : MethodName := ⟨RX6, "read", "()I"⟩
abbrev cX6_written : ByteArray := prog_1_method_40_code
def yX6_written : MethodName := ⟨RX6, "written", "(I)I"⟩
abbrev cX6_image : ByteArray := prog_1_method_41_code
def yX6_image : MethodName := ⟨RX6, "image", "()I"⟩
abbrev cX6_undo : ByteArray := prog_1_method_42_code
def yX6_undo : MethodName := ⟨RX6, "undo", "()I"⟩
abbrev cX6_count : ByteArray := prog_1_method_43_code
def yX6_count : MethodName := ⟨RX6, "count", "(I)I"⟩
abbrev cX6_size : ByteArray := prog_1_method_44_code
def yX6_size : MethodName := ⟨RX6, "size", "()I"⟩
abbrev cX6_isNode : ByteArray := prog_1_method_45_code
def yX6_isNode : MethodName := ⟨RX6, "isNode", "(I)Z"⟩
abbrev cX6_become : ByteArray := prog_1_method_46_code
def yX6_become : MethodName := ⟨RX6, "become", "(I)V"⟩
abbrev cX6_becomeAndTell : ByteArray := prog_1_method_47_code
def yX6_becomeAndTell : MethodName := ⟨RX6, "becomeAndTell", "(I)I"⟩
abbrev cX6_isShelf : ByteArray := prog_1_method_48_code
def yX6_isShelf : MethodName := ⟨RX6, "isShelf", "(I)Z"⟩
abbrev cX6_lack : ByteArray := prog_1_method_49_code
def yX6_lack : MethodName := ⟨RX6, "lack", "(I)I"⟩
abbrev cX6_lackOrTooMany : ByteArray := prog_1_method_50_code
def yX6_lackOrTooMany : MethodName := ⟨RX6, "lackOrTooMany", "(I)I"⟩
abbrev cX6_refusal : ByteArray := prog_1_method_51_code
def yX6_refusal : MethodName := ⟨RX6, "refusal", "(I)I"⟩
abbrev cX6_refusalOfTwo : ByteArray := prog_1_method_52_code
def yX6_refusalOfTwo : MethodName := ⟨RX6, "refusalOfTwo", "(II)I"⟩
abbrev cX6_shelvesInUse : ByteArray := prog_1_method_53_code
def yX6_shelvesInUse : MethodName := ⟨RX6, "shelvesInUse", "()I"⟩
def RX7 : String := "LeaningTreesModel"
def TX7 : u_T := fun k => match k with
  | 0 => ("LeaningTreesModel", "nodes", "I", false)
  | 1 => ("LeaningTreesModel", "tree", "I", false)
  | 2 => ("LeaningTreesModel", "shelfNodes", "[I", true)
  | 3 => ("LeaningTreesModel", "shelfTree", "[I", true)
  | 4 => ("LeaningTreesModel", "stepNodes", "[I", true)
  | 5 => ("LeaningTreesModel", "stepTree", "[I", true)
  | 6 => ("LeaningTreesModel", "steps", "I", false)
  | 7 => ("LeaningTreesModel", "lists", "[J", true)
  | 8 => ("LeaningTreesModel", "listSize", "[I", true)
  | 9 => ("LeaningTreesModel", "tape", "[I", true)
  | 10 => ("LeaningTreesModel", "taped", "I", false)
  | 11 => ("LeaningTreesModel", "at", "I", false)
  | 12 => ("LeaningTreesModel", "imaged", "Z", false)
  | 13 => ("LeaningTreesModel", "imageNodes", "I", false)
  | 14 => ("LeaningTreesModel", "imageTree", "I", false)
  | 15 => ("LeaningTreesModel", "imageShelfNodes", "[I", true)
  | 16 => ("LeaningTreesModel", "imageShelfTree", "[I", true)
  | 17 => ("LeaningTreesModel", "all", "[I", true)
  | 18 => ("LeaningTreesModel", "many", "I", false)
  | 19 => ("LeaningTreesModel", "tableOf", "I", false)
  | 20 => ("LeaningTreesModel", "parent", "[I", true)
  | 21 => ("LeaningTreesModel", "left", "[I", true)
  | 22 => ("LeaningTreesModel", "right", "[I", true)
  | 23 => ("LeaningTreesModel", "leftSize", "[I", true)
  | 24 => ("LeaningTreesModel", "above", "[I", true)
  | 25 => ("LeaningTreesModel", "read", "I", false)
  | 26 => ("LeaningTreesModel", "dist", "[I", true)
  | 27 => ("LeaningTreesModel", "queue", "[I", true)
  | 28 => ("LeaningTreesModel", "marks", "[I", true)
  | 29 => ("LeaningTreesModel", "text", "[I", true)
  | 30 => ("LeaningTreesModel", "written", "I", false)
  | 31 => ("LeaningTreesModel", "seen", "I", false)
  | 32 => ("LeaningTreesModel", "seenRow", "[I", true)
  | 33 => ("LeaningTreesModel", "open", "I", false)
  | _ => ("LeaningTreesModel", "part", "I", false)
def tyX7 : Nat → FieldType := fun k => match k with
  | 0 => .int
  | 1 => .int
  | 2 => .array .int
  | 3 => .array .int
  | 4 => .array .int
  | 5 => .array .int
  | 6 => .int
  | 7 => .array .long
  | 8 => .array .int
  | 9 => .array .int
  | 10 => .int
  | 11 => .int
  | 12 => .boolean
  | 13 => .int
  | 14 => .int
  | 15 => .array .int
  | 16 => .array .int
  | 17 => .array .int
  | 18 => .int
  | 19 => .int
  | 20 => .array .int
  | 21 => .array .int
  | 22 => .array .int
  | 23 => .array .int
  | 24 => .array .int
  | 25 => .int
  | 26 => .array .int
  | 27 => .array .int
  | 28 => .array .int
  | 29 => .array .int
  | 30 => .int
  | 31 => .int
  | 32 => .array .int
  | 33 => .int
  | _ => .int
abbrev wsX70 : List Cond := u_ws RX7 TX7 35
theorem nmX7 : ∀ a, a < 35 → ∀ b, b < 35 → a ≠ b → (TX7 a).2.1 ≠ (TX7 b).2.1 := by decide +kernel
theorem tyX7_ok : ∀ k, k < 35 → parseFieldDescriptor (TX7 k).2.2.1 = some (tyX7 k) := by decide +kernel
abbrev cX7_init : ByteArray := prog_9_method_1_code
def yX7_init : MethodName := ⟨RX7, "<init>", "()V"⟩
abbrev cX7_in : ByteArray := prog_9_method_2_code
def yX7_in : MethodName := ⟨RX7, "in", "(JJJ)Z"⟩
abbrev cX7_ten : ByteArray := prog_9_method_3_code
def yX7_ten : MethodName := ⟨RX7, "ten", "(I)I"⟩
abbrev cX7_at : ByteArray := prog_9_method_4_code
def yX7_at : MethodName := ⟨RX7, "at", "(III)I"⟩
abbrev cX7_with : ByteArray := prog_9_method_5_code
def yX7_with : MethodName := ⟨RX7, "with", "(IIII)I"⟩
abbrev cX7_isTree : ByteArray := prog_9_method_6_code
def yX7_isTree : MethodName := ⟨RX7, "isTree", "(II)Z"⟩
abbrev cX7_table : ByteArray := prog_9_method_7_code
def yX7_table : MethodName := ⟨RX7, "table", "(I)V"⟩
abbrev cX7_numberOf : ByteArray := prog_9_method_8_code
def yX7_numberOf : MethodName := ⟨RX7, "numberOf", "(II)I"⟩
abbrev cX7_reads : ByteArray := prog_9_method_9_code
def yX7_reads : MethodName := ⟨RX7, "reads", "(IIIIII)I"⟩
abbrev cX7_looks : ByteArray := prog_9_method_10_code
def yX7_looks : MethodName := ⟨RX7, "looks", "(II)V"⟩
abbrev cX7_up : ByteArray := prog_9_method_11_code
def yX7_up : MethodName := ⟨RX7, "up", "(III)I"⟩
abbrev cX7_down : ByteArray := prog_9_method_12_code
def yX7_down : MethodName := ⟨RX7, "down", "(III)I"⟩
abbrev cX7_mirrored : ByteArray := prog_9_method_13_code
def yX7_mirrored : MethodName := ⟨RX7, "mirrored", "(II)I"⟩
abbrev cX7_isBelow : ByteArray := prog_9_method_14_code
def yX7_isBelow : MethodName := ⟨RX7, "isBelow", "(III)Z"⟩
abbrev cX7_becomes : ByteArray := prog_9_method_15_code
def yX7_becomes : MethodName := ⟨RX7, "becomes", "(II)V"⟩
abbrev cX7_isNode : ByteArray := prog_9_method_16_code
def yX7_isNode : MethodName := ⟨RX7, "isNode", "(I)Z"⟩
abbrev cX7_nodes : ByteArray := prog_9_method_17_code
def yX7_nodes : MethodName := ⟨RX7, "nodes", "(I)I"⟩
abbrev cX7_row : ByteArray := prog_9_method_18_code
def yX7_row : MethodName := ⟨RX7, "row", "(I)I"⟩
abbrev cX7_of : ByteArray := prog_9_method_19_code
def yX7_of : MethodName := ⟨RX7, "of", "(II)I"⟩
abbrev cX7_number : ByteArray := prog_9_method_20_code
def yX7_number : MethodName := ⟨RX7, "number", "(I)I"⟩
abbrev cX7_which : ByteArray := prog_9_method_21_code
def yX7_which : MethodName := ⟨RX7, "which", "()I"⟩
abbrev cX7_many : ByteArray := prog_9_method_22_code
def yX7_many : MethodName := ⟨RX7, "many", "(I)I"⟩
abbrev cX7_digits : ByteArray := prog_9_method_23_code
def yX7_digits : MethodName := ⟨RX7, "digits", "()I"⟩
abbrev cX7_turn : ByteArray := prog_9_method_24_code
def yX7_turn : MethodName := ⟨RX7, "turn", "(I)I"⟩
abbrev cX7_back : ByteArray := prog_9_method_25_code
def yX7_back : MethodName := ⟨RX7, "back", "(I)I"⟩
abbrev cX7_mayTurn : ByteArray := prog_9_method_26_code
def yX7_mayTurn : MethodName := ⟨RX7, "mayTurn", "(I)I"⟩
abbrev cX7_mirror : ByteArray := prog_9_method_27_code
def yX7_mirror : MethodName := ⟨RX7, "mirror", "()I"⟩
abbrev cX7_off : ByteArray := prog_9_method_28_code
def yX7_off : MethodName := ⟨RX7, "off", "()I"⟩
abbrev cX7_isShelf : ByteArray := prog_9_method_29_code
def yX7_isShelf : MethodName := ⟨RX7, "isShelf", "(I)Z"⟩
abbrev cX7_barOf : ByteArray := prog_9_method_30_code
def yX7_barOf : MethodName := ⟨RX7, "barOf", "(I)I"⟩
abbrev cX7_below : ByteArray := prog_9_method_31_code
def yX7_below : MethodName := ⟨RX7, "below", "(II)I"⟩
abbrev cX7_bound : ByteArray := prog_9_method_32_code
def yX7_bound : MethodName := ⟨RX7, "bound", "(IIZ)I"⟩
abbrev cX7_meet : ByteArray := prog_9_method_33_code
def yX7_meet : MethodName := ⟨RX7, "meet", "(II)I"⟩
abbrev cX7_meetAll : ByteArray := prog_9_method_34_code
def yX7_meetAll : MethodName := ⟨RX7, "meetAll", "(I)I"⟩
abbrev cX7_isBetween : ByteArray := prog_9_method_35_code
def yX7_isBetween : MethodName := ⟨RX7, "isBetween", "(III)Z"⟩
abbrev cX7_between : ByteArray := prog_9_method_36_code
def yX7_between : MethodName := ⟨RX7, "between", "(II)I"⟩
abbrev cX7_measure : ByteArray := prog_9_method_37_code
def yX7_measure : MethodName := ⟨RX7, "measure", "(IZ)V"⟩
abbrev cX7_firstTurn : ByteArray := prog_9_method_38_code
def yX7_firstTurn : MethodName := ⟨RX7, "firstTurn", "(I)I"⟩
abbrev cX7_way : ByteArray := prog_9_method_39_code
def yX7_way : MethodName := ⟨RX7, "way", "(II)I"⟩
abbrev cX7_longest : ByteArray := prog_9_method_40_code
def yX7_longest : MethodName := ⟨RX7, "longest", "(I)I"⟩
abbrev cX7_chain : ByteArray := prog_9_method_41_code
def yX7_chain : MethodName := ⟨RX7, "chain", "(II)I"⟩
abbrev cX7_mark : ByteArray := prog_9_method_42_code
def yX7_mark : MethodName := ⟨RX7, "mark", "(I)I"⟩
abbrev cX7_pairs : ByteArray := prog_9_method_43_code
def yX7_pairs : MethodName := ⟨RX7, "pairs", "(I)I"⟩
abbrev cX7_far : ByteArray := prog_9_method_44_code
def yX7_far : MethodName := ⟨RX7, "far", "(I)I"⟩
abbrev cX7_canopyOf : ByteArray := prog_9_method_45_code
def yX7_canopyOf : MethodName := ⟨RX7, "canopyOf", "(II)I"⟩
abbrev cX7_canopy : ByteArray := prog_9_method_46_code
def yX7_canopy : MethodName := ⟨RX7, "canopy", "()I"⟩
abbrev cX7_inClass : ByteArray := prog_9_method_47_code
def yX7_inClass : MethodName := ⟨RX7, "inClass", "(II)I"⟩
abbrev cX7_likeness : ByteArray := prog_9_method_48_code
def yX7_likeness : MethodName := ⟨RX7, "likeness", "(I)I"⟩
abbrev cX7_keep : ByteArray := prog_9_method_49_code
def yX7_keep : MethodName := ⟨RX7, "keep", "(I)I"⟩
abbrev cX7_lay : ByteArray := prog_9_method_50_code
def yX7_lay : MethodName := ⟨RX7, "lay", "(I)I"⟩
abbrev cX7_lose : ByteArray := prog_9_method_51_code
def yX7_lose : MethodName := ⟨RX7, "lose", "(I)I"⟩
abbrev cX7_over : ByteArray := prog_9_method_52_code
def yX7_over : MethodName := ⟨RX7, "over", "(I)I"⟩
abbrev cX7_under : ByteArray := prog_9_method_53_code
def yX7_under : MethodName := ⟨RX7, "under", "(I)I"⟩
abbrev cX7_shelf : ByteArray := prog_9_method_54_code
def yX7_shelf : MethodName := ⟨RX7, "shelf", "(II)I"⟩
abbrev cX7_isList : ByteArray := prog_9_method_55_code
def yX7_isList : MethodName := ⟨RX7, "isList", "(I)Z"⟩
abbrev cX7_makes : ByteArray := prog_9_method_56_code
def yX7_makes : MethodName := ⟨RX7, "makes", "(II)V"⟩
abbrev cX7_list : ByteArray := prog_9_method_57_code
def yX7_list : MethodName := ⟨RX7, "list", "(II)I"⟩
abbrev cX7_put : ByteArray := prog_9_method_58_code
def yX7_put : MethodName := ⟨RX7, "put", "(IIJ)I"⟩
abbrev cX7_get : ByteArray := prog_9_method_59_code
def yX7_get : MethodName := ⟨RX7, "get", "(II)J"⟩
abbrev cX7_play : ByteArray := prog_9_method_60_code
def yX7_play : MethodName := ⟨RX7, "play", "(I)I"⟩
abbrev cX7_film : ByteArray := prog_9_method_61_code
def yX7_film : MethodName := ⟨RX7, "film", "(II)I"⟩
abbrev cX7_feed : ByteArray := prog_9_method_62_code
def yX7_feed : MethodName := ⟨RX7, "feed", "(I)I"⟩
abbrev cX7_wipe : ByteArray := prog_9_method_63_code
def yX7_wipe : MethodName := ⟨RX7, "wipe", "()I"⟩
abbrev cX7_sign : ByteArray := prog_9_method_64_code
def yX7_sign : MethodName := ⟨RX7, "sign", "()I"⟩
abbrev cX7_sees : ByteArray := prog_9_method_65_code
def yX7_sees : MethodName := ⟨RX7, "sees", "(Z)Z"⟩
abbrev cX7_read : ByteArray := prog_9_method_66_code
def yX7_read : MethodName := ⟨RX7, "read", "()I"⟩
abbrev cX7_write : ByteArray := prog_9_method_67_code
def yX7_write : MethodName := ⟨RX7, "write", "(I)V"⟩
abbrev cX7_written : ByteArray := prog_9_method_68_code
def yX7_written : MethodName := ⟨RX7, "written", "(I)I"⟩
abbrev cX7_image : ByteArray := prog_9_method_69_code
def yX7_image : MethodName := ⟨RX7, "image", "()I"⟩
abbrev cX7_undo : ByteArray := prog_9_method_70_code
def yX7_undo : MethodName := ⟨RX7, "undo", "()I"⟩
abbrev cX7_count : ByteArray := prog_9_method_71_code
def yX7_count : MethodName := ⟨RX7, "count", "(I)I"⟩
def RL : String := "LeaningTreesLaw"
abbrev cL_law : ByteArray := code
abbrev vwCl : List vw_C := [(RX0, TX0, 2), (RX1, TX1, 2), (RX2, TX2, 3), (RX3, TX3, 2), (RX4, TX4, 8), (RX5, TX5, 9), (RX6, TX6, 10), (RX7, TX7, 35)]
end
section
theorem dX0_init_0 : decode cX0_init 0 = .ok (.aload_n 0, 1) := by decide +kernel
theorem dX0_init_1 : decode cX0_init 1 = .ok (.invokespecial 3, 3) := by decide +kernel
theorem dX0_init_4 : decode cX0_init 4 = .ok (.aload_n 0, 1) := by decide +kernel
theorem dX0_init_5 : decode cX0_init 5 = .ok (.sipush 626, 3) := by decide +kernel
theorem dX0_init_8 : decode cX0_init 8 = .ok (.newarray .int, 2) := by decide +kernel
theorem dX0_init_10 : decode cX0_init 10 = .ok (.putfield 11, 3) := by decide +kernel
theorem dX0_init_13 : decode cX0_init 13 = .ok (.aload_n 0, 1) := by decide +kernel
theorem dX0_init_14 : decode cX0_init 14 = .ok (.sipush 626, 3) := by decide +kernel
theorem dX0_init_17 : decode cX0_init 17 = .ok (.newarray .int, 2) := by decide +kernel
theorem dX0_init_19 : decode cX0_init 19 = .ok (.putfield 15, 3) := by decide +kernel
theorem dX0_init_22 : decode cX0_init 22 = .ok (.getstatic 18, 3) := by decide +kernel
theorem dX0_init_25 : decode cX0_init 25 = .ok (.iconst 1, 1) := by decide +kernel
theorem dX0_init_26 : decode cX0_init 26 = .ok (.iaload, 1) := by decide +kernel
theorem dX0_init_27 : decode cX0_init 27 = .ok (.istore_n 1, 1) := by decide +kernel
theorem dX0_init_28 : decode cX0_init 28 = .ok (.iconst 1, 1) := by decide +kernel
theorem dX0_init_29 : decode cX0_init 29 = .ok (.istore_n 2, 1) := by decide +kernel
theorem dX0_init_30 : decode cX0_init 30 = .ok (.iload_n 2, 1) := by decide +kernel
theorem dX0_init_31 : decode cX0_init 31 = .ok (.bipush 7, 2) := by decide +kernel
theorem dX0_init_33 : decode cX0_init 33 = .ok (.if_icmp .gt 30, 3) := by decide +kernel
theorem dX0_init_36 : decode cX0_init 36 = .ok (.iconst 0, 1) := by decide +kernel
theorem dX0_init_37 : decode cX0_init 37 = .ok (.istore_n 3, 1) := by decide +kernel
theorem dX0_init_38 : decode cX0_init 38 = .ok (.iload_n 3, 1) := by decide +kernel
theorem dX0_init_39 : decode cX0_init 39 = .ok (.iload_n 2, 1) := by decide +kernel
theorem dX0_init_40 : decode cX0_init 40 = .ok (.if_icmp .ge 17, 3) := by decide +kernel
theorem dX0_init_43 : decode cX0_init 43 = .ok (.aload_n 0, 1) := by decide +kernel
theorem dX0_init_44 : decode cX0_init 44 = .ok (.iload_n 1, 1) := by decide +kernel
theorem dX0_init_45 : decode cX0_init 45 = .ok (.iload_n 2, 1) := by decide +kernel
theorem dX0_init_46 : decode cX0_init 46 = .ok (.iload_n 3, 1) := by decide +kernel
theorem dX0_init_47 : decode cX0_init 47 = .ok (.invokevirtual 21, 3) := by decide +kernel
theorem dX0_init_50 : decode cX0_init 50 = .ok (.istore_n 1, 1) := by decide +kernel
theorem dX0_init_51 : decode cX0_init 51 = .ok (.iinc 3 1, 3) := by decide +kernel
theorem dX0_init_54 : decode cX0_init 54 = .ok (.goto (-16), 3) := by decide +kernel
theorem dX0_init_57 : decode cX0_init 57 = .ok (.iinc 2 1, 3) := by decide +kernel
theorem dX0_init_60 : decode cX0_init 60 = .ok (.goto (-30), 3) := by decide +kernel
theorem dX0_init_63 : decode cX0_init 63 = .ok (.return_, 1) := by decide +kernel
theorem dX0_growAll_0 : decode cX0_growAll 0 = .ok (.iload_n 2, 1) := by decide +kernel
theorem dX0_growAll_1 : decode cX0_growAll 1 = .ok (.iconst 1, 1) := by decide +kernel
theorem dX0_growAll_2 : decode cX0_growAll 2 = .ok (.isub, 1) := by decide +kernel
theorem dX0_growAll_3 : decode cX0_growAll 3 = .ok (.iload_n 3, 1) := by decide +kernel
theorem dX0_growAll_4 : decode cX0_growAll 4 = .ok (.isub, 1) := by decide +kernel
theorem dX0_growAll_5 : decode cX0_growAll 5 = .ok (.istore 4, 2) := by decide +kernel
theorem dX0_growAll_7 : decode cX0_growAll 7 = .ok (.iload_n 1, 1) := by decide +kernel
theorem dX0_growAll_8 : decode cX0_growAll 8 = .ok (.istore 5, 2) := by decide +kernel
theorem dX0_growAll_10 : decode cX0_growAll 10 = .ok (.getstatic 18, 3) := by decide +kernel
theorem dX0_growAll_13 : decode cX0_growAll 13 = .ok (.iload_n 3, 1) := by decide +kernel
theorem dX0_growAll_14 : decode cX0_growAll 14 = .ok (.iaload, 1) := by decide +kernel
theorem dX0_growAll_15 : decode cX0_growAll 15 = .ok (.istore 6, 2) := by decide +kernel
theorem dX0_growAll_17 : decode cX0_growAll 17 = .ok (.iload 6, 2) := by decide +kernel
theorem dX0_growAll_19 : decode cX0_growAll 19 = .ok (.getstatic 18, 3) := by decide +kernel
theorem dX0_growAll_22 : decode cX0_growAll 22 = .ok (.iload_n 3, 1) := by decide +kernel
theorem dX0_growAll_23 : decode cX0_growAll 23 = .ok (.iconst 1, 1) := by decide +kernel
theorem dX0_growAll_24 : decode cX0_growAll 24 = .ok (.iadd, 1) := by decide +kernel
theorem dX0_growAll_25 : decode cX0_growAll 25 = .ok (.iaload, 1) := by decide +kernel
theorem dX0_growAll_26 : decode cX0_growAll 26 = .ok (.if_icmp .ge 92, 3) := by decide +kernel
theorem dX0_growAll_29 : decode cX0_growAll 29 = .ok (.iload_n 3, 1) := by decide +kernel
theorem dX0_growAll_30 : decode cX0_growAll 30 = .ok (.iconst 4, 1) := by decide +kernel
theorem dX0_growAll_31 : decode cX0_growAll 31 = .ok (.iload_n 3, 1) := by decide +kernel
theorem dX0_growAll_32 : decode cX0_growAll 32 = .ok (.imul, 1) := by decide +kernel
theorem dX0_growAll_33 : decode cX0_growAll 33 = .ok (.ishl, 1) := by decide +kernel
theorem dX0_growAll_34 : decode cX0_growAll 34 = .ok (.aload_n 0, 1) := by decide +kernel
theorem dX0_growAll_35 : decode cX0_growAll 35 = .ok (.getfield 11, 3) := by decide +kernel
theorem dX0_growAll_38 : decode cX0_growAll 38 = .ok (.iload 6, 2) := by decide +kernel
theorem dX0_growAll_40 : decode cX0_growAll 40 = .ok (.iaload, 1) := by decide +kernel
theorem dX0_growAll_41 : decode cX0_growAll 41 = .ok (.ior, 1) := by decide +kernel
theorem dX0_growAll_42 : decode cX0_growAll 42 = .ok (.iconst 4, 1) := by decide +kernel
theorem dX0_growAll_43 : decode cX0_growAll 43 = .ok (.iload 4, 2) := by decide +kernel
theorem dX0_growAll_45 : decode cX0_growAll 45 = .ok (.imul, 1) := by decide +kernel
theorem dX0_growAll_46 : decode cX0_growAll 46 = .ok (.ishl, 1) := by decide +kernel
theorem dX0_growAll_47 : decode cX0_growAll 47 = .ok (.istore 7, 2) := by decide +kernel
theorem dX0_growAll_49 : decode cX0_growAll 49 = .ok (.getstatic 18, 3) := by decide +kernel
theorem dX0_growAll_52 : decode cX0_growAll 52 = .ok (.iload 4, 2) := by decide +kernel
theorem dX0_growAll_54 : decode cX0_growAll 54 = .ok (.iaload, 1) := by decide +kernel
theorem dX0_growAll_55 : decode cX0_growAll 55 = .ok (.istore 8, 2) := by decide +kernel
theorem dX0_growAll_57 : decode cX0_growAll 57 = .ok (.iload 8, 2) := by decide +kernel
theorem dX0_growAll_59 : decode cX0_growAll 59 = .ok (.getstatic 18, 3) := by decide +kernel
theorem dX0_growAll_62 : decode cX0_growAll 62 = .ok (.iload 4, 2) := by decide +kernel
theorem dX0_growAll_64 : decode cX0_growAll 64 = .ok (.iconst 1, 1) := by decide +kernel
theorem dX0_growAll_65 : decode cX0_growAll 65 = .ok (.iadd, 1) := by decide +kernel
theorem dX0_growAll_66 : decode cX0_growAll 66 = .ok (.iaload, 1) := by decide +kernel
theorem dX0_growAll_67 : decode cX0_growAll 67 = .ok (.if_icmp .ge 45, 3) := by decide +kernel
theorem dX0_growAll_70 : decode cX0_growAll 70 = .ok (.iload 5, 2) := by decide +kernel
theorem dX0_growAll_72 : decode cX0_growAll 72 = .ok (.sipush 626, 3) := by decide +kernel
theorem dX0_growAll_75 : decode cX0_growAll 75 = .ok (.if_icmp .ge 37, 3) := by decide +kernel
theorem dX0_growAll_78 : decode cX0_growAll 78 = .ok (.aload_n 0, 1) := by decide +kernel
theorem dX0_growAll_79 : decode cX0_growAll 79 = .ok (.getfield 11, 3) := by decide +kernel
theorem dX0_growAll_82 : decode cX0_growAll 82 = .ok (.iload 5, 2) := by decide +kernel
theorem dX0_growAll_84 : decode cX0_growAll 84 = .ok (.iload 7, 2) := by decide +kernel
theorem dX0_growAll_86 : decode cX0_growAll 86 = .ok (.aload_n 0, 1) := by decide +kernel
theorem dX0_growAll_87 : decode cX0_growAll 87 = .ok (.getfield 11, 3) := by decide +kernel
theorem dX0_growAll_90 : decode cX0_growAll 90 = .ok (.iload 8, 2) := by decide +kernel
theorem dX0_growAll_92 : decode cX0_growAll 92 = .ok (.iaload, 1) := by decide +kernel
theorem dX0_growAll_93 : decode cX0_growAll 93 = .ok (.ior, 1) := by decide +kernel
theorem dX0_growAll_94 : decode cX0_growAll 94 = .ok (.iastore, 1) := by decide +kernel
theorem dX0_growAll_95 : decode cX0_growAll 95 = .ok (.aload_n 0, 1) := by decide +kernel
theorem dX0_growAll_96 : decode cX0_growAll 96 = .ok (.getfield 15, 3) := by decide +kernel
theorem dX0_growAll_99 : decode cX0_growAll 99 = .ok (.iload 5, 2) := by decide +kernel
theorem dX0_growAll_101 : decode cX0_growAll 101 = .ok (.iload_n 2, 1) := by decide +kernel
theorem dX0_growAll_102 : decode cX0_growAll 102 = .ok (.iastore, 1) := by decide +kernel
theorem dX0_growAll_103 : decode cX0_growAll 103 = .ok (.iinc 5 1, 3) := by decide +kernel
theorem dX0_growAll_106 : decode cX0_growAll 106 = .ok (.iinc 8 1, 3) := by decide +kernel
theorem dX0_growAll_109 : decode cX0_growAll 109 = .ok (.goto (-52), 3) := by decide +kernel
theorem dX0_growAll_112 : decode cX0_growAll 112 = .ok (.iinc 6 1, 3) := by decide +kernel
theorem dX0_growAll_115 : decode cX0_growAll 115 = .ok (.goto (-98), 3) := by decide +kernel
theorem dX0_growAll_118 : decode cX0_growAll 118 = .ok (.iload 5, 2) := by decide +kernel
theorem dX0_growAll_120 : decode cX0_growAll 120 = .ok (.ireturn, 1) := by decide +kernel
theorem dX0_isSize_0 : decode cX0_isSize 0 = .ok (.iload_n 0, 1) := by decide +kernel
theorem dX0_isSize_1 : decode cX0_isSize 1 = .ok (.iconst 1, 1) := by decide +kernel
theorem dX0_isSize_2 : decode cX0_isSize 2 = .ok (.if_icmp .lt 13, 3) := by decide +kernel
theorem dX0_isSize_5 : decode cX0_isSize 5 = .ok (.iload_n 0, 1) := by decide +kernel
theorem dX0_isSize_6 : decode cX0_isSize 6 = .ok (.bipush 7, 2) := by decide +kernel
theorem dX0_isSize_8 : decode cX0_isSize 8 = .ok (.if_icmp .gt 7, 3) := by decide +kernel
theorem dX0_isSize_11 : decode cX0_isSize 11 = .ok (.iconst 1, 1) := by decide +kernel
theorem dX0_isSize_12 : decode cX0_isSize 12 = .ok (.goto 4, 3) := by decide +kernel
theorem dX0_isSize_15 : decode cX0_isSize 15 = .ok (.iconst 0, 1) := by decide +kernel
theorem dX0_isSize_16 : decode cX0_isSize 16 = .ok (.ireturn, 1) := by decide +kernel
theorem dX0_firstOf_0 : decode cX0_firstOf 0 = .ok (.iload_n 1, 1) := by decide +kernel
theorem dX0_firstOf_1 : decode cX0_firstOf 1 = .ok (.invokestatic 25, 3) := by decide +kernel
theorem dX0_firstOf_4 : decode cX0_firstOf 4 = .ok (.ifCond .eq 11, 3) := by decide +kernel
theorem dX0_firstOf_7 : decode cX0_firstOf 7 = .ok (.getstatic 18, 3) := by decide +kernel
theorem dX0_firstOf_10 : decode cX0_firstOf 10 = .ok (.iload_n 1, 1) := by decide +kernel
theorem dX0_firstOf_11 : decode cX0_firstOf 11 = .ok (.iaload, 1) := by decide +kernel
theorem dX0_firstOf_12 : decode cX0_firstOf 12 = .ok (.goto 4, 3) := by decide +kernel
theorem dX0_firstOf_15 : decode cX0_firstOf 15 = .ok (.iconst 0, 1) := by decide +kernel
theorem dX0_firstOf_16 : decode cX0_firstOf 16 = .ok (.ireturn, 1) := by decide +kernel
theorem dX0_lastOf_0 : decode cX0_lastOf 0 = .ok (.iload_n 1, 1) := by decide +kernel
theorem dX0_lastOf_1 : decode cX0_lastOf 1 = .ok (.invokestatic 25, 3) := by decide +kernel
theorem dX0_lastOf_4 : decode cX0_lastOf 4 = .ok (.ifCond .eq 15, 3) := by decide +kernel
theorem dX0_lastOf_7 : decode cX0_lastOf 7 = .ok (.getstatic 18, 3) := by decide +kernel
theorem dX0_lastOf_10 : decode cX0_lastOf 10 = .ok (.iload_n 1, 1) := by decide +kernel
theorem dX0_lastOf_11 : decode cX0_lastOf 11 = .ok (.iconst 1, 1) := by decide +kernel
theorem dX0_lastOf_12 : decode cX0_lastOf 12 = .ok (.iadd, 1) := by decide +kernel
theorem dX0_lastOf_13 : decode cX0_lastOf 13 = .ok (.iaload, 1) := by decide +kernel
theorem dX0_lastOf_14 : decode cX0_lastOf 14 = .ok (.iconst 1, 1) := by decide +kernel
theorem dX0_lastOf_15 : decode cX0_lastOf 15 = .ok (.isub, 1) := by decide +kernel
theorem dX0_lastOf_16 : decode cX0_lastOf 16 = .ok (.goto 4, 3) := by decide +kernel
theorem dX0_lastOf_19 : decode cX0_lastOf 19 = .ok (.iconst 0, 1) := by decide +kernel
theorem dX0_lastOf_20 : decode cX0_lastOf 20 = .ok (.ireturn, 1) := by decide +kernel
theorem dX0_howMany_0 : decode cX0_howMany 0 = .ok (.aload_n 0, 1) := by decide +kernel
theorem dX0_howMany_1 : decode cX0_howMany 1 = .ok (.iload_n 1, 1) := by decide +kernel
theorem dX0_howMany_2 : decode cX0_howMany 2 = .ok (.invokevirtual 29, 3) := by decide +kernel
theorem dX0_howMany_5 : decode cX0_howMany 5 = .ok (.aload_n 0, 1) := by decide +kernel
theorem dX0_howMany_6 : decode cX0_howMany 6 = .ok (.iload_n 1, 1) := by decide +kernel
theorem dX0_howMany_7 : decode cX0_howMany 7 = .ok (.invokevirtual 33, 3) := by decide +kernel
theorem dX0_howMany_10 : decode cX0_howMany 10 = .ok (.isub, 1) := by decide +kernel
theorem dX0_howMany_11 : decode cX0_howMany 11 = .ok (.iconst 1, 1) := by decide +kernel
theorem dX0_howMany_12 : decode cX0_howMany 12 = .ok (.iadd, 1) := by decide +kernel
theorem dX0_howMany_13 : decode cX0_howMany 13 = .ok (.ireturn, 1) := by decide +kernel
theorem dX0_sizeOf_0 : decode cX0_sizeOf 0 = .ok (.iload_n 1, 1) := by decide +kernel
theorem dX0_sizeOf_1 : decode cX0_sizeOf 1 = .ok (.ifCond .lt 19, 3) := by decide +kernel
theorem dX0_sizeOf_4 : decode cX0_sizeOf 4 = .ok (.iload_n 1, 1) := by decide +kernel
theorem dX0_sizeOf_5 : decode cX0_sizeOf 5 = .ok (.sipush 626, 3) := by decide +kernel
theorem dX0_sizeOf_8 : decode cX0_sizeOf 8 = .ok (.if_icmp .ge 12, 3) := by decide +kernel
theorem dX0_sizeOf_11 : decode cX0_sizeOf 11 = .ok (.aload_n 0, 1) := by decide +kernel
theorem dX0_sizeOf_12 : decode cX0_sizeOf 12 = .ok (.getfield 15, 3) := by decide +kernel
theorem dX0_sizeOf_15 : decode cX0_sizeOf 15 = .ok (.iload_n 1, 1) := by decide +kernel
theorem dX0_sizeOf_16 : decode cX0_sizeOf 16 = .ok (.iaload, 1) := by decide +kernel
theorem dX0_sizeOf_17 : decode cX0_sizeOf 17 = .ok (.goto 4, 3) := by decide +kernel
theorem dX0_sizeOf_20 : decode cX0_sizeOf 20 = .ok (.iconst 0, 1) := by decide +kernel
theorem dX0_sizeOf_21 : decode cX0_sizeOf 21 = .ok (.ireturn, 1) := by decide +kernel
theorem dX0_codeOf_0 : decode cX0_codeOf 0 = .ok (.iload_n 1, 1) := by decide +kernel
theorem dX0_codeOf_1 : decode cX0_codeOf 1 = .ok (.ifCond .lt 19, 3) := by decide +kernel
theorem dX0_codeOf_4 : decode cX0_codeOf 4 = .ok (.iload_n 1, 1) := by decide +kernel
theorem dX0_codeOf_5 : decode cX0_codeOf 5 = .ok (.sipush 626, 3) := by decide +kernel
theorem dX0_codeOf_8 : decode cX0_codeOf 8 = .ok (.if_icmp .ge 12, 3) := by decide +kernel
theorem dX0_codeOf_11 : decode cX0_codeOf 11 = .ok (.aload_n 0, 1) := by decide +kernel
theorem dX0_codeOf_12 : decode cX0_codeOf 12 = .ok (.getfield 11, 3) := by decide +kernel
theorem dX0_codeOf_15 : decode cX0_codeOf 15 = .ok (.iload_n 1, 1) := by decide +kernel
theorem dX0_codeOf_16 : decode cX0_codeOf 16 = .ok (.iaload, 1) := by decide +kernel
theorem dX0_codeOf_17 : decode cX0_codeOf 17 = .ok (.goto 4, 3) := by decide +kernel
theorem dX0_codeOf_20 : decode cX0_codeOf 20 = .ok (.iconst 0, 1) := by decide +kernel
theorem dX0_codeOf_21 : decode cX0_codeOf 21 = .ok (.ireturn, 1) := by decide +kernel
theorem dX0_numberOf_0 : decode cX0_numberOf 0 = .ok (.iload_n 1, 1) := by decide +kernel
theorem dX0_numberOf_1 : decode cX0_numberOf 1 = .ok (.aload_n 0, 1) := by decide +kernel
theorem dX0_numberOf_2 : decode cX0_numberOf 2 = .ok (.aload_n 0, 1) := by decide +kernel
theorem dX0_numberOf_3 : decode cX0_numberOf 3 = .ok (.iload_n 1, 1) := by decide +kernel
theorem dX0_numberOf_4 : decode cX0_numberOf 4 = .ok (.invokevirtual 36, 3) := by decide +kernel
theorem dX0_numberOf_7 : decode cX0_numberOf 7 = .ok (.invokevirtual 33, 3) := by decide +kernel
theorem dX0_numberOf_10 : decode cX0_numberOf 10 = .ok (.isub, 1) := by decide +kernel
theorem dX0_numberOf_11 : decode cX0_numberOf 11 = .ok (.ireturn, 1) := by decide +kernel
theorem dX0_find_0 : decode cX0_find 0 = .ok (.aload_n 0, 1) := by decide +kernel
theorem dX0_find_1 : decode cX0_find 1 = .ok (.iload_n 1, 1) := by decide +kernel
theorem dX0_find_2 : decode cX0_find 2 = .ok (.invokevirtual 29, 3) := by decide +kernel
theorem dX0_find_5 : decode cX0_find 5 = .ok (.istore_n 3, 1) := by decide +kernel
theorem dX0_find_6 : decode cX0_find 6 = .ok (.aload_n 0, 1) := by decide +kernel
theorem dX0_find_7 : decode cX0_find 7 = .ok (.iload_n 1, 1) := by decide +kernel
theorem dX0_find_8 : decode cX0_find 8 = .ok (.invokevirtual 33, 3) := by decide +kernel
theorem dX0_find_11 : decode cX0_find 11 = .ok (.istore 4, 2) := by decide +kernel
theorem dX0_find_13 : decode cX0_find 13 = .ok (.sipush 256, 3) := by decide +kernel
theorem dX0_find_16 : decode cX0_find 16 = .ok (.istore 5, 2) := by decide +kernel
theorem dX0_find_18 : decode cX0_find 18 = .ok (.iload 5, 2) := by decide +kernel
theorem dX0_find_20 : decode cX0_find 20 = .ok (.ifCond .le 41, 3) := by decide +kernel
theorem dX0_find_23 : decode cX0_find 23 = .ok (.iload 4, 2) := by decide +kernel
theorem dX0_find_25 : decode cX0_find 25 = .ok (.iload 5, 2) := by decide +kernel
theorem dX0_find_27 : decode cX0_find 27 = .ok (.iadd, 1) := by decide +kernel
theorem dX0_find_28 : decode cX0_find 28 = .ok (.iload_n 3, 1) := by decide +kernel
theorem dX0_find_29 : decode cX0_find 29 = .ok (.if_icmp .gt 23, 3) := by decide +kernel
theorem dX0_find_32 : decode cX0_find 32 = .ok (.aload_n 0, 1) := by decide +kernel
theorem dX0_find_33 : decode cX0_find 33 = .ok (.iload 4, 2) := by decide +kernel
theorem dX0_find_35 : decode cX0_find 35 = .ok (.iload 5, 2) := by decide +kernel
theorem dX0_find_37 : decode cX0_find 37 = .ok (.iadd, 1) := by decide +kernel
theorem dX0_find_38 : decode cX0_find 38 = .ok (.invokevirtual 39, 3) := by decide +kernel
theorem dX0_find_41 : decode cX0_find 41 = .ok (.iload_n 2, 1) := by decide +kernel
theorem dX0_find_42 : decode cX0_find 42 = .ok (.if_icmp .gt 10, 3) := by decide +kernel
theorem dX0_find_45 : decode cX0_find 45 = .ok (.iload 4, 2) := by decide +kernel
theorem dX0_find_47 : decode cX0_find 47 = .ok (.iload 5, 2) := by decide +kernel
theorem dX0_find_49 : decode cX0_find 49 = .ok (.iadd, 1) := by decide +kernel
theorem dX0_find_50 : decode cX0_find 50 = .ok (.istore 4, 2) := by decide +kernel
theorem dX0_find_52 : decode cX0_find 52 = .ok (.iload 5, 2) := by decide +kernel
theorem dX0_find_54 : decode cX0_find 54 = .ok (.iconst 1, 1) := by decide +kernel
theorem dX0_find_55 : decode cX0_find 55 = .ok (.ishr, 1) := by decide +kernel
theorem dX0_find_56 : decode cX0_find 56 = .ok (.istore 5, 2) := by decide +kernel
theorem dX0_find_58 : decode cX0_find 58 = .ok (.goto (-40), 3) := by decide +kernel
theorem dX0_find_61 : decode cX0_find 61 = .ok (.aload_n 0, 1) := by decide +kernel
theorem dX0_find_62 : decode cX0_find 62 = .ok (.iload 4, 2) := by decide +kernel
theorem dX0_find_64 : decode cX0_find 64 = .ok (.invokevirtual 39, 3) := by decide +kernel
theorem dX0_find_67 : decode cX0_find 67 = .ok (.iload_n 2, 1) := by decide +kernel
theorem dX0_find_68 : decode cX0_find 68 = .ok (.if_icmp .ne 8, 3) := by decide +kernel
theorem dX0_find_71 : decode cX0_find 71 = .ok (.iload 4, 2) := by decide +kernel
theorem dX0_find_73 : decode cX0_find 73 = .ok (.goto 4, 3) := by decide +kernel
theorem dX0_find_76 : decode cX0_find 76 = .ok (.iconst 0, 1) := by decide +kernel
theorem dX0_find_77 : decode cX0_find 77 = .ok (.ireturn, 1) := by decide +kernel
theorem dX0_findDigits_0 : decode cX0_findDigits 0 = .ok (.iload_n 2, 1) := by decide +kernel
theorem dX0_findDigits_1 : decode cX0_findDigits 1 = .ok (.ifCond .ge 5, 3) := by decide +kernel
theorem dX0_findDigits_4 : decode cX0_findDigits 4 = .ok (.iconst 0, 1) := by decide +kernel
theorem dX0_findDigits_5 : decode cX0_findDigits 5 = .ok (.ireturn, 1) := by decide +kernel
theorem dX0_findDigits_6 : decode cX0_findDigits 6 = .ok (.iconst 0, 1) := by decide +kernel
theorem dX0_findDigits_7 : decode cX0_findDigits 7 = .ok (.istore_n 3, 1) := by decide +kernel
theorem dX0_findDigits_8 : decode cX0_findDigits 8 = .ok (.iload_n 2, 1) := by decide +kernel
theorem dX0_findDigits_9 : decode cX0_findDigits 9 = .ok (.istore 4, 2) := by decide +kernel
theorem dX0_findDigits_11 : decode cX0_findDigits 11 = .ok (.iconst 0, 1) := by decide +kernel
theorem dX0_findDigits_12 : decode cX0_findDigits 12 = .ok (.istore 5, 2) := by decide +kernel
theorem dX0_findDigits_14 : decode cX0_findDigits 14 = .ok (.iload 5, 2) := by decide +kernel
theorem dX0_findDigits_16 : decode cX0_findDigits 16 = .ok (.iload_n 1, 1) := by decide +kernel
theorem dX0_findDigits_17 : decode cX0_findDigits 17 = .ok (.if_icmp .ge 29, 3) := by decide +kernel
theorem dX0_findDigits_20 : decode cX0_findDigits 20 = .ok (.iload_n 3, 1) := by decide +kernel
theorem dX0_findDigits_21 : decode cX0_findDigits 21 = .ok (.iload 4, 2) := by decide +kernel
theorem dX0_findDigits_23 : decode cX0_findDigits 23 = .ok (.bipush 10, 2) := by decide +kernel
theorem dX0_findDigits_25 : decode cX0_findDigits 25 = .ok (.irem, 1) := by decide +kernel
theorem dX0_findDigits_26 : decode cX0_findDigits 26 = .ok (.iconst 4, 1) := by decide +kernel
theorem dX0_findDigits_27 : decode cX0_findDigits 27 = .ok (.iload 5, 2) := by decide +kernel
theorem dX0_findDigits_29 : decode cX0_findDigits 29 = .ok (.imul, 1) := by decide +kernel
theorem dX0_findDigits_30 : decode cX0_findDigits 30 = .ok (.ishl, 1) := by decide +kernel
theorem dX0_findDigits_31 : decode cX0_findDigits 31 = .ok (.ior, 1) := by decide +kernel
theorem dX0_findDigits_32 : decode cX0_findDigits 32 = .ok (.istore_n 3, 1) := by decide +kernel
theorem dX0_findDigits_33 : decode cX0_findDigits 33 = .ok (.iload 4, 2) := by decide +kernel
theorem dX0_findDigits_35 : decode cX0_findDigits 35 = .ok (.bipush 10, 2) := by decide +kernel
theorem dX0_findDigits_37 : decode cX0_findDigits 37 = .ok (.idiv, 1) := by decide +kernel
theorem dX0_findDigits_38 : decode cX0_findDigits 38 = .ok (.istore 4, 2) := by decide +kernel
theorem dX0_findDigits_40 : decode cX0_findDigits 40 = .ok (.iinc 5 1, 3) := by decide +kernel
theorem dX0_findDigits_43 : decode cX0_findDigits 43 = .ok (.goto (-29), 3) := by decide +kernel
theorem dX0_findDigits_46 : decode cX0_findDigits 46 = .ok (.iload 4, 2) := by decide +kernel
theorem dX0_findDigits_48 : decode cX0_findDigits 48 = .ok (.ifCond .ne 12, 3) := by decide +kernel
theorem dX0_findDigits_51 : decode cX0_findDigits 51 = .ok (.aload_n 0, 1) := by decide +kernel
theorem dX0_findDigits_52 : decode cX0_findDigits 52 = .ok (.iload_n 1, 1) := by decide +kernel
theorem dX0_findDigits_53 : decode cX0_findDigits 53 = .ok (.iload_n 3, 1) := by decide +kernel
theorem dX0_findDigits_54 : decode cX0_findDigits 54 = .ok (.invokevirtual 42, 3) := by decide +kernel
theorem dX0_findDigits_57 : decode cX0_findDigits 57 = .ok (.goto 4, 3) := by decide +kernel
theorem dX0_findDigits_60 : decode cX0_findDigits 60 = .ok (.iconst 0, 1) := by decide +kernel
theorem dX0_findDigits_61 : decode cX0_findDigits 61 = .ok (.ireturn, 1) := by decide +kernel
theorem dX0_asDigits_0 : decode cX0_asDigits 0 = .ok (.iconst 0, 1) := by decide +kernel
theorem dX0_asDigits_1 : decode cX0_asDigits 1 = .ok (.istore_n 2, 1) := by decide +kernel
theorem dX0_asDigits_2 : decode cX0_asDigits 2 = .ok (.iconst 0, 1) := by decide +kernel
theorem dX0_asDigits_3 : decode cX0_asDigits 3 = .ok (.istore_n 3, 1) := by decide +kernel
theorem dX0_asDigits_4 : decode cX0_asDigits 4 = .ok (.iload_n 3, 1) := by decide +kernel
theorem dX0_asDigits_5 : decode cX0_asDigits 5 = .ok (.aload_n 0, 1) := by decide +kernel
theorem dX0_asDigits_6 : decode cX0_asDigits 6 = .ok (.iload_n 1, 1) := by decide +kernel
theorem dX0_asDigits_7 : decode cX0_asDigits 7 = .ok (.invokevirtual 36, 3) := by decide +kernel
theorem dX0_asDigits_10 : decode cX0_asDigits 10 = .ok (.if_icmp .ge 21, 3) := by decide +kernel
theorem dX0_asDigits_13 : decode cX0_asDigits 13 = .ok (.iload_n 2, 1) := by decide +kernel
theorem dX0_asDigits_14 : decode cX0_asDigits 14 = .ok (.bipush 10, 2) := by decide +kernel
theorem dX0_asDigits_16 : decode cX0_asDigits 16 = .ok (.imul, 1) := by decide +kernel
theorem dX0_asDigits_17 : decode cX0_asDigits 17 = .ok (.aload_n 0, 1) := by decide +kernel
theorem dX0_asDigits_18 : decode cX0_asDigits 18 = .ok (.iload_n 1, 1) := by decide +kernel
theorem dX0_asDigits_19 : decode cX0_asDigits 19 = .ok (.iload_n 3, 1) := by decide +kernel
theorem dX0_asDigits_20 : decode cX0_asDigits 20 = .ok (.invokevirtual 46, 3) := by decide +kernel
theorem dX0_asDigits_23 : decode cX0_asDigits 23 = .ok (.iadd, 1) := by decide +kernel
theorem dX0_asDigits_24 : decode cX0_asDigits 24 = .ok (.istore_n 2, 1) := by decide +kernel
theorem dX0_asDigits_25 : decode cX0_asDigits 25 = .ok (.iinc 3 1, 3) := by decide +kernel
theorem dX0_asDigits_28 : decode cX0_asDigits 28 = .ok (.goto (-24), 3) := by decide +kernel
theorem dX0_asDigits_31 : decode cX0_asDigits 31 = .ok (.iload_n 2, 1) := by decide +kernel
theorem dX0_asDigits_32 : decode cX0_asDigits 32 = .ok (.ireturn, 1) := by decide +kernel
theorem dX0_digitOf_0 : decode cX0_digitOf 0 = .ok (.iload_n 0, 1) := by decide +kernel
theorem dX0_digitOf_1 : decode cX0_digitOf 1 = .ok (.iconst 4, 1) := by decide +kernel
theorem dX0_digitOf_2 : decode cX0_digitOf 2 = .ok (.iload_n 1, 1) := by decide +kernel
theorem dX0_digitOf_3 : decode cX0_digitOf 3 = .ok (.iconst 1, 1) := by decide +kernel
theorem dX0_digitOf_4 : decode cX0_digitOf 4 = .ok (.isub, 1) := by decide +kernel
theorem dX0_digitOf_5 : decode cX0_digitOf 5 = .ok (.iload_n 2, 1) := by decide +kernel
theorem dX0_digitOf_6 : decode cX0_digitOf 6 = .ok (.isub, 1) := by decide +kernel
theorem dX0_digitOf_7 : decode cX0_digitOf 7 = .ok (.imul, 1) := by decide +kernel
theorem dX0_digitOf_8 : decode cX0_digitOf 8 = .ok (.ishr, 1) := by decide +kernel
theorem dX0_digitOf_9 : decode cX0_digitOf 9 = .ok (.bipush 15, 2) := by decide +kernel
theorem dX0_digitOf_11 : decode cX0_digitOf 11 = .ok (.iand, 1) := by decide +kernel
theorem dX0_digitOf_12 : decode cX0_digitOf 12 = .ok (.ireturn, 1) := by decide +kernel
theorem dX0_digitAt_0 : decode cX0_digitAt 0 = .ok (.iload_n 0, 1) := by decide +kernel
theorem dX0_digitAt_1 : decode cX0_digitAt 1 = .ok (.iconst 4, 1) := by decide +kernel
theorem dX0_digitAt_2 : decode cX0_digitAt 2 = .ok (.iload_n 1, 1) := by decide +kernel
theorem dX0_digitAt_3 : decode cX0_digitAt 3 = .ok (.iconst 1, 1) := by decide +kernel
theorem dX0_digitAt_4 : decode cX0_digitAt 4 = .ok (.isub, 1) := by decide +kernel
theorem dX0_digitAt_5 : decode cX0_digitAt 5 = .ok (.iload_n 2, 1) := by decide +kernel
theorem dX0_digitAt_6 : decode cX0_digitAt 6 = .ok (.isub, 1) := by decide +kernel
theorem dX0_digitAt_7 : decode cX0_digitAt 7 = .ok (.imul, 1) := by decide +kernel
theorem dX0_digitAt_8 : decode cX0_digitAt 8 = .ok (.ishl, 1) := by decide +kernel
theorem dX0_digitAt_9 : decode cX0_digitAt 9 = .ok (.ireturn, 1) := by decide +kernel
theorem dX0_rightSize_0 : decode cX0_rightSize 0 = .ok (.iload_n 1, 1) := by decide +kernel
theorem dX0_rightSize_1 : decode cX0_rightSize 1 = .ok (.ifCond .lt 10, 3) := by decide +kernel
theorem dX0_rightSize_4 : decode cX0_rightSize 4 = .ok (.iload_n 1, 1) := by decide +kernel
theorem dX0_rightSize_5 : decode cX0_rightSize 5 = .ok (.sipush 626, 3) := by decide +kernel
theorem dX0_rightSize_8 : decode cX0_rightSize 8 = .ok (.if_icmp .lt 5, 3) := by decide +kernel
theorem dX0_rightSize_11 : decode cX0_rightSize 11 = .ok (.iconst 0, 1) := by decide +kernel
theorem dX0_rightSize_12 : decode cX0_rightSize 12 = .ok (.ireturn, 1) := by decide +kernel
theorem dX0_rightSize_13 : decode cX0_rightSize 13 = .ok (.aload_n 0, 1) := by decide +kernel
theorem dX0_rightSize_14 : decode cX0_rightSize 14 = .ok (.getfield 11, 3) := by decide +kernel
theorem dX0_rightSize_17 : decode cX0_rightSize 17 = .ok (.iload_n 1, 1) := by decide +kernel
theorem dX0_rightSize_18 : decode cX0_rightSize 18 = .ok (.iaload, 1) := by decide +kernel
theorem dX0_rightSize_19 : decode cX0_rightSize 19 = .ok (.iconst 4, 1) := by decide +kernel
theorem dX0_rightSize_20 : decode cX0_rightSize 20 = .ok (.aload_n 0, 1) := by decide +kernel
theorem dX0_rightSize_21 : decode cX0_rightSize 21 = .ok (.getfield 15, 3) := by decide +kernel
theorem dX0_rightSize_24 : decode cX0_rightSize 24 = .ok (.iload_n 1, 1) := by decide +kernel
theorem dX0_rightSize_25 : decode cX0_rightSize 25 = .ok (.iaload, 1) := by decide +kernel
theorem dX0_rightSize_26 : decode cX0_rightSize 26 = .ok (.iconst 1, 1) := by decide +kernel
theorem dX0_rightSize_27 : decode cX0_rightSize 27 = .ok (.isub, 1) := by decide +kernel
theorem dX0_rightSize_28 : decode cX0_rightSize 28 = .ok (.iload_n 2, 1) := by decide +kernel
theorem dX0_rightSize_29 : decode cX0_rightSize 29 = .ok (.isub, 1) := by decide +kernel
theorem dX0_rightSize_30 : decode cX0_rightSize 30 = .ok (.imul, 1) := by decide +kernel
theorem dX0_rightSize_31 : decode cX0_rightSize 31 = .ok (.ishr, 1) := by decide +kernel
theorem dX0_rightSize_32 : decode cX0_rightSize 32 = .ok (.bipush 15, 2) := by decide +kernel
theorem dX0_rightSize_34 : decode cX0_rightSize 34 = .ok (.iand, 1) := by decide +kernel
theorem dX0_rightSize_35 : decode cX0_rightSize 35 = .ok (.ireturn, 1) := by decide +kernel
theorem dX0_end_0 : decode cX0_end 0 = .ok (.iload_n 2, 1) := by decide +kernel
theorem dX0_end_1 : decode cX0_end 1 = .ok (.aload_n 0, 1) := by decide +kernel
theorem dX0_end_2 : decode cX0_end 2 = .ok (.iload_n 1, 1) := by decide +kernel
theorem dX0_end_3 : decode cX0_end 3 = .ok (.iload_n 2, 1) := by decide +kernel
theorem dX0_end_4 : decode cX0_end 4 = .ok (.invokevirtual 46, 3) := by decide +kernel
theorem dX0_end_7 : decode cX0_end 7 = .ok (.iadd, 1) := by decide +kernel
theorem dX0_end_8 : decode cX0_end 8 = .ok (.ireturn, 1) := by decide +kernel
theorem dX0_leftSize_0 : decode cX0_leftSize 0 = .ok (.iconst 0, 1) := by decide +kernel
theorem dX0_leftSize_1 : decode cX0_leftSize 1 = .ok (.istore_n 3, 1) := by decide +kernel
theorem dX0_leftSize_2 : decode cX0_leftSize 2 = .ok (.iload_n 2, 1) := by decide +kernel
theorem dX0_leftSize_3 : decode cX0_leftSize 3 = .ok (.iconst 1, 1) := by decide +kernel
theorem dX0_leftSize_4 : decode cX0_leftSize 4 = .ok (.isub, 1) := by decide +kernel
theorem dX0_leftSize_5 : decode cX0_leftSize 5 = .ok (.istore 4, 2) := by decide +kernel
theorem dX0_leftSize_7 : decode cX0_leftSize 7 = .ok (.iload 4, 2) := by decide +kernel
theorem dX0_leftSize_9 : decode cX0_leftSize 9 = .ok (.ifCond .lt 23, 3) := by decide +kernel
theorem dX0_leftSize_12 : decode cX0_leftSize 12 = .ok (.aload_n 0, 1) := by decide +kernel
theorem dX0_leftSize_13 : decode cX0_leftSize 13 = .ok (.iload_n 1, 1) := by decide +kernel
theorem dX0_leftSize_14 : decode cX0_leftSize 14 = .ok (.iload 4, 2) := by decide +kernel
theorem dX0_leftSize_16 : decode cX0_leftSize 16 = .ok (.invokevirtual 49, 3) := by decide +kernel
theorem dX0_leftSize_19 : decode cX0_leftSize 19 = .ok (.iload_n 2, 1) := by decide +kernel
theorem dX0_leftSize_20 : decode cX0_leftSize 20 = .ok (.if_icmp .ge 12, 3) := by decide +kernel
theorem dX0_leftSize_23 : decode cX0_leftSize 23 = .ok (.iinc 3 1, 3) := by decide +kernel
theorem dX0_leftSize_26 : decode cX0_leftSize 26 = .ok (.iinc 4 (-1), 3) := by decide +kernel
theorem dX0_leftSize_29 : decode cX0_leftSize 29 = .ok (.goto (-22), 3) := by decide +kernel
theorem dX0_leftSize_32 : decode cX0_leftSize 32 = .ok (.iload_n 3, 1) := by decide +kernel
theorem dX0_leftSize_33 : decode cX0_leftSize 33 = .ok (.ireturn, 1) := by decide +kernel
theorem dX0_parent_0 : decode cX0_parent 0 = .ok (.aload_n 0, 1) := by decide +kernel
theorem dX0_parent_1 : decode cX0_parent 1 = .ok (.iload_n 1, 1) := by decide +kernel
theorem dX0_parent_2 : decode cX0_parent 2 = .ok (.iload_n 2, 1) := by decide +kernel
theorem dX0_parent_3 : decode cX0_parent 3 = .ok (.invokevirtual 49, 3) := by decide +kernel
theorem dX0_parent_6 : decode cX0_parent 6 = .ok (.istore_n 3, 1) := by decide +kernel
theorem dX0_parent_7 : decode cX0_parent 7 = .ok (.iload_n 2, 1) := by decide +kernel
theorem dX0_parent_8 : decode cX0_parent 8 = .ok (.aload_n 0, 1) := by decide +kernel
theorem dX0_parent_9 : decode cX0_parent 9 = .ok (.iload_n 1, 1) := by decide +kernel
theorem dX0_parent_10 : decode cX0_parent 10 = .ok (.iload_n 2, 1) := by decide +kernel
theorem dX0_parent_11 : decode cX0_parent 11 = .ok (.invokevirtual 52, 3) := by decide +kernel
theorem dX0_parent_14 : decode cX0_parent 14 = .ok (.isub, 1) := by decide +kernel
theorem dX0_parent_15 : decode cX0_parent 15 = .ok (.iconst 1, 1) := by decide +kernel
theorem dX0_parent_16 : decode cX0_parent 16 = .ok (.isub, 1) := by decide +kernel
theorem dX0_parent_17 : decode cX0_parent 17 = .ok (.istore 4, 2) := by decide +kernel
theorem dX0_parent_19 : decode cX0_parent 19 = .ok (.iload 4, 2) := by decide +kernel
theorem dX0_parent_21 : decode cX0_parent 21 = .ok (.ifCond .lt 17, 3) := by decide +kernel
theorem dX0_parent_24 : decode cX0_parent 24 = .ok (.aload_n 0, 1) := by decide +kernel
theorem dX0_parent_25 : decode cX0_parent 25 = .ok (.iload_n 1, 1) := by decide +kernel
theorem dX0_parent_26 : decode cX0_parent 26 = .ok (.iload 4, 2) := by decide +kernel
theorem dX0_parent_28 : decode cX0_parent 28 = .ok (.invokevirtual 49, 3) := by decide +kernel
theorem dX0_parent_31 : decode cX0_parent 31 = .ok (.iload_n 3, 1) := by decide +kernel
theorem dX0_parent_32 : decode cX0_parent 32 = .ok (.if_icmp .ne 6, 3) := by decide +kernel
theorem dX0_parent_35 : decode cX0_parent 35 = .ok (.iload 4, 2) := by decide +kernel
theorem dX0_parent_37 : decode cX0_parent 37 = .ok (.ireturn, 1) := by decide +kernel
theorem dX0_parent_38 : decode cX0_parent 38 = .ok (.iload_n 3, 1) := by decide +kernel
theorem dX0_parent_39 : decode cX0_parent 39 = .ok (.iconst 1, 1) := by decide +kernel
theorem dX0_parent_40 : decode cX0_parent 40 = .ok (.iadd, 1) := by decide +kernel
theorem dX0_parent_41 : decode cX0_parent 41 = .ok (.aload_n 0, 1) := by decide +kernel
theorem dX0_parent_42 : decode cX0_parent 42 = .ok (.iload_n 1, 1) := by decide +kernel
theorem dX0_parent_43 : decode cX0_parent 43 = .ok (.invokevirtual 36, 3) := by decide +kernel
theorem dX0_parent_46 : decode cX0_parent 46 = .ok (.if_icmp .ge 9, 3) := by decide +kernel
theorem dX0_parent_49 : decode cX0_parent 49 = .ok (.iload_n 3, 1) := by decide +kernel
theorem dX0_parent_50 : decode cX0_parent 50 = .ok (.iconst 1, 1) := by decide +kernel
theorem dX0_parent_51 : decode cX0_parent 51 = .ok (.iadd, 1) := by decide +kernel
theorem dX0_parent_52 : decode cX0_parent 52 = .ok (.goto 5, 3) := by decide +kernel
theorem dX0_parent_55 : decode cX0_parent 55 = .ok (.bipush (-5), 2) := by decide +kernel
theorem dX0_parent_57 : decode cX0_parent 57 = .ok (.ireturn, 1) := by decide +kernel
theorem dX0_isLeftChild_0 : decode cX0_isLeftChild 0 = .ok (.aload_n 0, 1) := by decide +kernel
theorem dX0_isLeftChild_1 : decode cX0_isLeftChild 1 = .ok (.iload_n 1, 1) := by decide +kernel
theorem dX0_isLeftChild_2 : decode cX0_isLeftChild 2 = .ok (.iload_n 2, 1) := by decide +kernel
theorem dX0_isLeftChild_3 : decode cX0_isLeftChild 3 = .ok (.invokevirtual 49, 3) := by decide +kernel
theorem dX0_isLeftChild_6 : decode cX0_isLeftChild 6 = .ok (.istore_n 3, 1) := by decide +kernel
theorem dX0_isLeftChild_7 : decode cX0_isLeftChild 7 = .ok (.iload_n 3, 1) := by decide +kernel
theorem dX0_isLeftChild_8 : decode cX0_isLeftChild 8 = .ok (.iconst 1, 1) := by decide +kernel
theorem dX0_isLeftChild_9 : decode cX0_isLeftChild 9 = .ok (.iadd, 1) := by decide +kernel
theorem dX0_isLeftChild_10 : decode cX0_isLeftChild 10 = .ok (.aload_n 0, 1) := by decide +kernel
theorem dX0_isLeftChild_11 : decode cX0_isLeftChild 11 = .ok (.iload_n 1, 1) := by decide +kernel
theorem dX0_isLeftChild_12 : decode cX0_isLeftChild 12 = .ok (.invokevirtual 36, 3) := by decide +kernel
theorem dX0_isLeftChild_15 : decode cX0_isLeftChild 15 = .ok (.if_icmp .lt 5, 3) := by decide +kernel
theorem dX0_isLeftChild_18 : decode cX0_isLeftChild 18 = .ok (.iconst 0, 1) := by decide +kernel
theorem dX0_isLeftChild_19 : decode cX0_isLeftChild 19 = .ok (.ireturn, 1) := by decide +kernel
theorem dX0_isLeftChild_20 : decode cX0_isLeftChild 20 = .ok (.iconst 0, 1) := by decide +kernel
theorem dX0_isLeftChild_21 : decode cX0_isLeftChild 21 = .ok (.istore 4, 2) := by decide +kernel
theorem dX0_isLeftChild_23 : decode cX0_isLeftChild 23 = .ok (.iload 4, 2) := by decide +kernel
theorem dX0_isLeftChild_25 : decode cX0_isLeftChild 25 = .ok (.iload_n 2, 1) := by decide +kernel
theorem dX0_isLeftChild_26 : decode cX0_isLeftChild 26 = .ok (.if_icmp .ge 22, 3) := by decide +kernel
theorem dX0_isLeftChild_29 : decode cX0_isLeftChild 29 = .ok (.aload_n 0, 1) := by decide +kernel
theorem dX0_isLeftChild_30 : decode cX0_isLeftChild 30 = .ok (.iload_n 1, 1) := by decide +kernel
theorem dX0_isLeftChild_31 : decode cX0_isLeftChild 31 = .ok (.iload 4, 2) := by decide +kernel
theorem dX0_isLeftChild_33 : decode cX0_isLeftChild 33 = .ok (.invokevirtual 49, 3) := by decide +kernel
theorem dX0_isLeftChild_36 : decode cX0_isLeftChild 36 = .ok (.iload_n 3, 1) := by decide +kernel
theorem dX0_isLeftChild_37 : decode cX0_isLeftChild 37 = .ok (.if_icmp .ne 5, 3) := by decide +kernel
theorem dX0_isLeftChild_40 : decode cX0_isLeftChild 40 = .ok (.iconst 0, 1) := by decide +kernel
theorem dX0_isLeftChild_41 : decode cX0_isLeftChild 41 = .ok (.ireturn, 1) := by decide +kernel
theorem dX0_isLeftChild_42 : decode cX0_isLeftChild 42 = .ok (.iinc 4 1, 3) := by decide +kernel
theorem dX0_isLeftChild_45 : decode cX0_isLeftChild 45 = .ok (.goto (-22), 3) := by decide +kernel
theorem dX0_isLeftChild_48 : decode cX0_isLeftChild 48 = .ok (.iconst 1, 1) := by decide +kernel
theorem dX0_isLeftChild_49 : decode cX0_isLeftChild 49 = .ok (.ireturn, 1) := by decide +kernel
theorem dX0_leftChild_0 : decode cX0_leftChild 0 = .ok (.aload_n 0, 1) := by decide +kernel
theorem dX0_leftChild_1 : decode cX0_leftChild 1 = .ok (.iload_n 1, 1) := by decide +kernel
theorem dX0_leftChild_2 : decode cX0_leftChild 2 = .ok (.iload_n 2, 1) := by decide +kernel
theorem dX0_leftChild_3 : decode cX0_leftChild 3 = .ok (.aload_n 0, 1) := by decide +kernel
theorem dX0_leftChild_4 : decode cX0_leftChild 4 = .ok (.iload_n 1, 1) := by decide +kernel
theorem dX0_leftChild_5 : decode cX0_leftChild 5 = .ok (.iload_n 2, 1) := by decide +kernel
theorem dX0_leftChild_6 : decode cX0_leftChild 6 = .ok (.invokevirtual 52, 3) := by decide +kernel
theorem dX0_leftChild_9 : decode cX0_leftChild 9 = .ok (.isub, 1) := by decide +kernel
theorem dX0_leftChild_10 : decode cX0_leftChild 10 = .ok (.iload_n 2, 1) := by decide +kernel
theorem dX0_leftChild_11 : decode cX0_leftChild 11 = .ok (.iconst 1, 1) := by decide +kernel
theorem dX0_leftChild_12 : decode cX0_leftChild 12 = .ok (.isub, 1) := by decide +kernel
theorem dX0_leftChild_13 : decode cX0_leftChild 13 = .ok (.invokevirtual 55, 3) := by decide +kernel
theorem dX0_leftChild_16 : decode cX0_leftChild 16 = .ok (.ireturn, 1) := by decide +kernel
theorem dX0_rightChild_0 : decode cX0_rightChild 0 = .ok (.aload_n 0, 1) := by decide +kernel
theorem dX0_rightChild_1 : decode cX0_rightChild 1 = .ok (.iload_n 1, 1) := by decide +kernel
theorem dX0_rightChild_2 : decode cX0_rightChild 2 = .ok (.iload_n 2, 1) := by decide +kernel
theorem dX0_rightChild_3 : decode cX0_rightChild 3 = .ok (.iconst 1, 1) := by decide +kernel
theorem dX0_rightChild_4 : decode cX0_rightChild 4 = .ok (.iadd, 1) := by decide +kernel
theorem dX0_rightChild_5 : decode cX0_rightChild 5 = .ok (.aload_n 0, 1) := by decide +kernel
theorem dX0_rightChild_6 : decode cX0_rightChild 6 = .ok (.iload_n 1, 1) := by decide +kernel
theorem dX0_rightChild_7 : decode cX0_rightChild 7 = .ok (.iload_n 2, 1) := by decide +kernel
theorem dX0_rightChild_8 : decode cX0_rightChild 8 = .ok (.invokevirtual 49, 3) := by decide +kernel
theorem dX0_rightChild_11 : decode cX0_rightChild 11 = .ok (.invokevirtual 55, 3) := by decide +kernel
theorem dX0_rightChild_14 : decode cX0_rightChild 14 = .ok (.ireturn, 1) := by decide +kernel
theorem dX0_top_0 : decode cX0_top 0 = .ok (.iload_n 2, 1) := by decide +kernel
theorem dX0_top_1 : decode cX0_top 1 = .ok (.istore 4, 2) := by decide +kernel
theorem dX0_top_3 : decode cX0_top 3 = .ok (.iload 4, 2) := by decide +kernel
theorem dX0_top_5 : decode cX0_top 5 = .ok (.iload_n 3, 1) := by decide +kernel
theorem dX0_top_6 : decode cX0_top 6 = .ok (.if_icmp .gt 23, 3) := by decide +kernel
theorem dX0_top_9 : decode cX0_top 9 = .ok (.aload_n 0, 1) := by decide +kernel
theorem dX0_top_10 : decode cX0_top 10 = .ok (.iload_n 1, 1) := by decide +kernel
theorem dX0_top_11 : decode cX0_top 11 = .ok (.iload 4, 2) := by decide +kernel
theorem dX0_top_13 : decode cX0_top 13 = .ok (.invokevirtual 49, 3) := by decide +kernel
theorem dX0_top_16 : decode cX0_top 16 = .ok (.iload_n 3, 1) := by decide +kernel
theorem dX0_top_17 : decode cX0_top 17 = .ok (.if_icmp .ne 6, 3) := by decide +kernel
theorem dX0_top_20 : decode cX0_top 20 = .ok (.iload 4, 2) := by decide +kernel
theorem dX0_top_22 : decode cX0_top 22 = .ok (.ireturn, 1) := by decide +kernel
theorem dX0_top_23 : decode cX0_top 23 = .ok (.iinc 4 1, 3) := by decide +kernel
theorem dX0_top_26 : decode cX0_top 26 = .ok (.goto (-23), 3) := by decide +kernel
theorem dX0_top_29 : decode cX0_top 29 = .ok (.bipush (-5), 2) := by decide +kernel
theorem dX0_top_31 : decode cX0_top 31 = .ok (.ireturn, 1) := by decide +kernel
theorem dX0_depth_0 : decode cX0_depth 0 = .ok (.iconst 0, 1) := by decide +kernel
theorem dX0_depth_1 : decode cX0_depth 1 = .ok (.istore_n 3, 1) := by decide +kernel
theorem dX0_depth_2 : decode cX0_depth 2 = .ok (.iconst 0, 1) := by decide +kernel
theorem dX0_depth_3 : decode cX0_depth 3 = .ok (.istore 4, 2) := by decide +kernel
theorem dX0_depth_5 : decode cX0_depth 5 = .ok (.iload 4, 2) := by decide +kernel
theorem dX0_depth_7 : decode cX0_depth 7 = .ok (.aload_n 0, 1) := by decide +kernel
theorem dX0_depth_8 : decode cX0_depth 8 = .ok (.iload_n 1, 1) := by decide +kernel
theorem dX0_depth_9 : decode cX0_depth 9 = .ok (.invokevirtual 36, 3) := by decide +kernel
theorem dX0_depth_12 : decode cX0_depth 12 = .ok (.if_icmp .ge 43, 3) := by decide +kernel
theorem dX0_depth_15 : decode cX0_depth 15 = .ok (.iload 4, 2) := by decide +kernel
theorem dX0_depth_17 : decode cX0_depth 17 = .ok (.iload_n 2, 1) := by decide +kernel
theorem dX0_depth_18 : decode cX0_depth 18 = .ok (.if_icmp .eq 31, 3) := by decide +kernel
theorem dX0_depth_21 : decode cX0_depth 21 = .ok (.iload 4, 2) := by decide +kernel
theorem dX0_depth_23 : decode cX0_depth 23 = .ok (.aload_n 0, 1) := by decide +kernel
theorem dX0_depth_24 : decode cX0_depth 24 = .ok (.iload_n 1, 1) := by decide +kernel
theorem dX0_depth_25 : decode cX0_depth 25 = .ok (.iload 4, 2) := by decide +kernel
theorem dX0_depth_27 : decode cX0_depth 27 = .ok (.invokevirtual 52, 3) := by decide +kernel
theorem dX0_depth_30 : decode cX0_depth 30 = .ok (.isub, 1) := by decide +kernel
theorem dX0_depth_31 : decode cX0_depth 31 = .ok (.iload_n 2, 1) := by decide +kernel
theorem dX0_depth_32 : decode cX0_depth 32 = .ok (.if_icmp .gt 17, 3) := by decide +kernel
theorem dX0_depth_35 : decode cX0_depth 35 = .ok (.iload_n 2, 1) := by decide +kernel
theorem dX0_depth_36 : decode cX0_depth 36 = .ok (.aload_n 0, 1) := by decide +kernel
theorem dX0_depth_37 : decode cX0_depth 37 = .ok (.iload_n 1, 1) := by decide +kernel
theorem dX0_depth_38 : decode cX0_depth 38 = .ok (.iload 4, 2) := by decide +kernel
theorem dX0_depth_40 : decode cX0_depth 40 = .ok (.invokevirtual 49, 3) := by decide +kernel
theorem dX0_depth_43 : decode cX0_depth 43 = .ok (.if_icmp .gt 6, 3) := by decide +kernel
theorem dX0_depth_46 : decode cX0_depth 46 = .ok (.iinc 3 1, 3) := by decide +kernel
theorem dX0_depth_49 : decode cX0_depth 49 = .ok (.iinc 4 1, 3) := by decide +kernel
theorem dX0_depth_52 : decode cX0_depth 52 = .ok (.goto (-47), 3) := by decide +kernel
theorem dX0_depth_55 : decode cX0_depth 55 = .ok (.iload_n 3, 1) := by decide +kernel
theorem dX0_depth_56 : decode cX0_depth 56 = .ok (.ireturn, 1) := by decide +kernel
theorem dX0_turnedUp_0 : decode cX0_turnedUp 0 = .ok (.aload_n 0, 1) := by decide +kernel
theorem dX0_turnedUp_1 : decode cX0_turnedUp 1 = .ok (.iload_n 1, 1) := by decide +kernel
theorem dX0_turnedUp_2 : decode cX0_turnedUp 2 = .ok (.iload_n 2, 1) := by decide +kernel
theorem dX0_turnedUp_3 : decode cX0_turnedUp 3 = .ok (.invokevirtual 58, 3) := by decide +kernel
theorem dX0_turnedUp_6 : decode cX0_turnedUp 6 = .ok (.ifCond .ne 5, 3) := by decide +kernel
theorem dX0_turnedUp_9 : decode cX0_turnedUp 9 = .ok (.iconst 0, 1) := by decide +kernel
theorem dX0_turnedUp_10 : decode cX0_turnedUp 10 = .ok (.ireturn, 1) := by decide +kernel
theorem dX0_turnedUp_11 : decode cX0_turnedUp 11 = .ok (.aload_n 0, 1) := by decide +kernel
theorem dX0_turnedUp_12 : decode cX0_turnedUp 12 = .ok (.iload_n 1, 1) := by decide +kernel
theorem dX0_turnedUp_13 : decode cX0_turnedUp 13 = .ok (.invokevirtual 36, 3) := by decide +kernel
theorem dX0_turnedUp_16 : decode cX0_turnedUp 16 = .ok (.istore_n 3, 1) := by decide +kernel
theorem dX0_turnedUp_17 : decode cX0_turnedUp 17 = .ok (.aload_n 0, 1) := by decide +kernel
theorem dX0_turnedUp_18 : decode cX0_turnedUp 18 = .ok (.iload_n 1, 1) := by decide +kernel
theorem dX0_turnedUp_19 : decode cX0_turnedUp 19 = .ok (.iload_n 2, 1) := by decide +kernel
theorem dX0_turnedUp_20 : decode cX0_turnedUp 20 = .ok (.invokevirtual 49, 3) := by decide +kernel
theorem dX0_turnedUp_23 : decode cX0_turnedUp 23 = .ok (.iconst 1, 1) := by decide +kernel
theorem dX0_turnedUp_24 : decode cX0_turnedUp 24 = .ok (.iadd, 1) := by decide +kernel
theorem dX0_turnedUp_25 : decode cX0_turnedUp 25 = .ok (.istore 4, 2) := by decide +kernel
theorem dX0_turnedUp_27 : decode cX0_turnedUp 27 = .ok (.aload_n 0, 1) := by decide +kernel
theorem dX0_turnedUp_28 : decode cX0_turnedUp 28 = .ok (.iload_n 3, 1) := by decide +kernel
theorem dX0_turnedUp_29 : decode cX0_turnedUp 29 = .ok (.aload_n 0, 1) := by decide +kernel
theorem dX0_turnedUp_30 : decode cX0_turnedUp 30 = .ok (.iload_n 1, 1) := by decide +kernel
theorem dX0_turnedUp_31 : decode cX0_turnedUp 31 = .ok (.invokevirtual 39, 3) := by decide +kernel
theorem dX0_turnedUp_34 : decode cX0_turnedUp 34 = .ok (.iconst 1, 1) := by decide +kernel
theorem dX0_turnedUp_35 : decode cX0_turnedUp 35 = .ok (.aload_n 0, 1) := by decide +kernel
theorem dX0_turnedUp_36 : decode cX0_turnedUp 36 = .ok (.iload_n 1, 1) := by decide +kernel
theorem dX0_turnedUp_37 : decode cX0_turnedUp 37 = .ok (.iload 4, 2) := by decide +kernel
theorem dX0_turnedUp_39 : decode cX0_turnedUp 39 = .ok (.invokevirtual 46, 3) := by decide +kernel
theorem dX0_turnedUp_42 : decode cX0_turnedUp 42 = .ok (.iadd, 1) := by decide +kernel
theorem dX0_turnedUp_43 : decode cX0_turnedUp 43 = .ok (.iload_n 3, 1) := by decide +kernel
theorem dX0_turnedUp_44 : decode cX0_turnedUp 44 = .ok (.iload_n 2, 1) := by decide +kernel
theorem dX0_turnedUp_45 : decode cX0_turnedUp 45 = .ok (.invokestatic 62, 3) := by decide +kernel
theorem dX0_turnedUp_48 : decode cX0_turnedUp 48 = .ok (.iadd, 1) := by decide +kernel
theorem dX0_turnedUp_49 : decode cX0_turnedUp 49 = .ok (.invokevirtual 42, 3) := by decide +kernel
theorem dX0_turnedUp_52 : decode cX0_turnedUp 52 = .ok (.ireturn, 1) := by decide +kernel
theorem dX0_turnedBack_0 : decode cX0_turnedBack 0 = .ok (.aload_n 0, 1) := by decide +kernel
theorem dX0_turnedBack_1 : decode cX0_turnedBack 1 = .ok (.iload_n 1, 1) := by decide +kernel
theorem dX0_turnedBack_2 : decode cX0_turnedBack 2 = .ok (.iload_n 2, 1) := by decide +kernel
theorem dX0_turnedBack_3 : decode cX0_turnedBack 3 = .ok (.iconst 1, 1) := by decide +kernel
theorem dX0_turnedBack_4 : decode cX0_turnedBack 4 = .ok (.iadd, 1) := by decide +kernel
theorem dX0_turnedBack_5 : decode cX0_turnedBack 5 = .ok (.aload_n 0, 1) := by decide +kernel
theorem dX0_turnedBack_6 : decode cX0_turnedBack 6 = .ok (.iload_n 1, 1) := by decide +kernel
theorem dX0_turnedBack_7 : decode cX0_turnedBack 7 = .ok (.iload_n 2, 1) := by decide +kernel
theorem dX0_turnedBack_8 : decode cX0_turnedBack 8 = .ok (.invokevirtual 49, 3) := by decide +kernel
theorem dX0_turnedBack_11 : decode cX0_turnedBack 11 = .ok (.invokevirtual 55, 3) := by decide +kernel
theorem dX0_turnedBack_14 : decode cX0_turnedBack 14 = .ok (.istore_n 3, 1) := by decide +kernel
theorem dX0_turnedBack_15 : decode cX0_turnedBack 15 = .ok (.iload_n 3, 1) := by decide +kernel
theorem dX0_turnedBack_16 : decode cX0_turnedBack 16 = .ok (.bipush (-5), 2) := by decide +kernel
theorem dX0_turnedBack_18 : decode cX0_turnedBack 18 = .ok (.if_icmp .ne 5, 3) := by decide +kernel
theorem dX0_turnedBack_21 : decode cX0_turnedBack 21 = .ok (.iconst 0, 1) := by decide +kernel
theorem dX0_turnedBack_22 : decode cX0_turnedBack 22 = .ok (.ireturn, 1) := by decide +kernel
theorem dX0_turnedBack_23 : decode cX0_turnedBack 23 = .ok (.aload_n 0, 1) := by decide +kernel
theorem dX0_turnedBack_24 : decode cX0_turnedBack 24 = .ok (.iload_n 1, 1) := by decide +kernel
theorem dX0_turnedBack_25 : decode cX0_turnedBack 25 = .ok (.invokevirtual 36, 3) := by decide +kernel
theorem dX0_turnedBack_28 : decode cX0_turnedBack 28 = .ok (.istore 4, 2) := by decide +kernel
theorem dX0_turnedBack_30 : decode cX0_turnedBack 30 = .ok (.aload_n 0, 1) := by decide +kernel
theorem dX0_turnedBack_31 : decode cX0_turnedBack 31 = .ok (.iload 4, 2) := by decide +kernel
theorem dX0_turnedBack_33 : decode cX0_turnedBack 33 = .ok (.aload_n 0, 1) := by decide +kernel
theorem dX0_turnedBack_34 : decode cX0_turnedBack 34 = .ok (.iload_n 1, 1) := by decide +kernel
theorem dX0_turnedBack_35 : decode cX0_turnedBack 35 = .ok (.invokevirtual 39, 3) := by decide +kernel
theorem dX0_turnedBack_38 : decode cX0_turnedBack 38 = .ok (.iconst 1, 1) := by decide +kernel
theorem dX0_turnedBack_39 : decode cX0_turnedBack 39 = .ok (.aload_n 0, 1) := by decide +kernel
theorem dX0_turnedBack_40 : decode cX0_turnedBack 40 = .ok (.iload_n 1, 1) := by decide +kernel
theorem dX0_turnedBack_41 : decode cX0_turnedBack 41 = .ok (.iload_n 3, 1) := by decide +kernel
theorem dX0_turnedBack_42 : decode cX0_turnedBack 42 = .ok (.invokevirtual 46, 3) := by decide +kernel
theorem dX0_turnedBack_45 : decode cX0_turnedBack 45 = .ok (.iadd, 1) := by decide +kernel
theorem dX0_turnedBack_46 : decode cX0_turnedBack 46 = .ok (.iload 4, 2) := by decide +kernel
theorem dX0_turnedBack_48 : decode cX0_turnedBack 48 = .ok (.iload_n 2, 1) := by decide +kernel
theorem dX0_turnedBack_49 : decode cX0_turnedBack 49 = .ok (.invokestatic 62, 3) := by decide +kernel
theorem dX0_turnedBack_52 : decode cX0_turnedBack 52 = .ok (.isub, 1) := by decide +kernel
theorem dX0_turnedBack_53 : decode cX0_turnedBack 53 = .ok (.invokevirtual 42, 3) := by decide +kernel
theorem dX0_turnedBack_56 : decode cX0_turnedBack 56 = .ok (.ireturn, 1) := by decide +kernel
theorem dX0_turnedAsTold_0 : decode cX0_turnedAsTold 0 = .ok (.aload_n 0, 1) := by decide +kernel
theorem dX0_turnedAsTold_1 : decode cX0_turnedAsTold 1 = .ok (.iload_n 1, 1) := by decide +kernel
theorem dX0_turnedAsTold_2 : decode cX0_turnedAsTold 2 = .ok (.invokevirtual 36, 3) := by decide +kernel
theorem dX0_turnedAsTold_5 : decode cX0_turnedAsTold 5 = .ok (.istore 4, 2) := by decide +kernel
theorem dX0_turnedAsTold_7 : decode cX0_turnedAsTold 7 = .ok (.lload_n 2, 1) := by decide +kernel
theorem dX0_turnedAsTold_8 : decode cX0_turnedAsTold 8 = .ok (.iload 4, 2) := by decide +kernel
theorem dX0_turnedAsTold_10 : decode cX0_turnedAsTold 10 = .ok (.i2l, 1) := by decide +kernel
theorem dX0_turnedAsTold_11 : decode cX0_turnedAsTold 11 = .ok (.lcmp, 1) := by decide +kernel
theorem dX0_turnedAsTold_12 : decode cX0_turnedAsTold 12 = .ok (.ifCond .ge 12, 3) := by decide +kernel
theorem dX0_turnedAsTold_15 : decode cX0_turnedAsTold 15 = .ok (.lload_n 2, 1) := by decide +kernel
theorem dX0_turnedAsTold_16 : decode cX0_turnedAsTold 16 = .ok (.iload 4, 2) := by decide +kernel
theorem dX0_turnedAsTold_18 : decode cX0_turnedAsTold 18 = .ok (.ineg, 1) := by decide +kernel
theorem dX0_turnedAsTold_19 : decode cX0_turnedAsTold 19 = .ok (.i2l, 1) := by decide +kernel
theorem dX0_turnedAsTold_20 : decode cX0_turnedAsTold 20 = .ok (.lcmp, 1) := by decide +kernel
theorem dX0_turnedAsTold_21 : decode cX0_turnedAsTold 21 = .ok (.ifCond .ge 5, 3) := by decide +kernel
theorem dX0_turnedAsTold_24 : decode cX0_turnedAsTold 24 = .ok (.iconst 0, 1) := by decide +kernel
theorem dX0_turnedAsTold_25 : decode cX0_turnedAsTold 25 = .ok (.ireturn, 1) := by decide +kernel
theorem dX0_turnedAsTold_26 : decode cX0_turnedAsTold 26 = .ok (.lload_n 2, 1) := by decide +kernel
theorem dX0_turnedAsTold_27 : decode cX0_turnedAsTold 27 = .ok (.lconst 0, 1) := by decide +kernel
theorem dX0_turnedAsTold_28 : decode cX0_turnedAsTold 28 = .ok (.lcmp, 1) := by decide +kernel
theorem dX0_turnedAsTold_29 : decode cX0_turnedAsTold 29 = .ok (.ifCond .lt 13, 3) := by decide +kernel
theorem dX0_turnedAsTold_32 : decode cX0_turnedAsTold 32 = .ok (.aload_n 0, 1) := by decide +kernel
theorem dX0_turnedAsTold_33 : decode cX0_turnedAsTold 33 = .ok (.iload_n 1, 1) := by decide +kernel
theorem dX0_turnedAsTold_34 : decode cX0_turnedAsTold 34 = .ok (.lload_n 2, 1) := by decide +kernel
theorem dX0_turnedAsTold_35 : decode cX0_turnedAsTold 35 = .ok (.l2i, 1) := by decide +kernel
theorem dX0_turnedAsTold_36 : decode cX0_turnedAsTold 36 = .ok (.invokevirtual 65, 3) := by decide +kernel
theorem dX0_turnedAsTold_39 : decode cX0_turnedAsTold 39 = .ok (.goto 14, 3) := by decide +kernel
theorem dX0_turnedAsTold_42 : decode cX0_turnedAsTold 42 = .ok (.aload_n 0, 1) := by decide +kernel
theorem dX0_turnedAsTold_43 : decode cX0_turnedAsTold 43 = .ok (.iload_n 1, 1) := by decide +kernel
theorem dX0_turnedAsTold_44 : decode cX0_turnedAsTold 44 = .ok (.ldc2_w 68, 3) := by decide +kernel
theorem dX0_turnedAsTold_47 : decode cX0_turnedAsTold 47 = .ok (.lload_n 2, 1) := by decide +kernel
theorem dX0_turnedAsTold_48 : decode cX0_turnedAsTold 48 = .ok (.lsub, 1) := by decide +kernel
theorem dX0_turnedAsTold_49 : decode cX0_turnedAsTold 49 = .ok (.l2i, 1) := by decide +kernel
theorem dX0_turnedAsTold_50 : decode cX0_turnedAsTold 50 = .ok (.invokevirtual 70, 3) := by decide +kernel
theorem dX0_turnedAsTold_53 : decode cX0_turnedAsTold 53 = .ok (.ireturn, 1) := by decide +kernel
theorem dX0_leftChildren_0 : decode cX0_leftChildren 0 = .ok (.iconst 0, 1) := by decide +kernel
theorem dX0_leftChildren_1 : decode cX0_leftChildren 1 = .ok (.istore_n 2, 1) := by decide +kernel
theorem dX0_leftChildren_2 : decode cX0_leftChildren 2 = .ok (.iconst 0, 1) := by decide +kernel
theorem dX0_leftChildren_3 : decode cX0_leftChildren 3 = .ok (.istore_n 3, 1) := by decide +kernel
theorem dX0_leftChildren_4 : decode cX0_leftChildren 4 = .ok (.iload_n 3, 1) := by decide +kernel
theorem dX0_leftChildren_5 : decode cX0_leftChildren 5 = .ok (.aload_n 0, 1) := by decide +kernel
theorem dX0_leftChildren_6 : decode cX0_leftChildren 6 = .ok (.iload_n 1, 1) := by decide +kernel
theorem dX0_leftChildren_7 : decode cX0_leftChildren 7 = .ok (.invokevirtual 36, 3) := by decide +kernel
theorem dX0_leftChildren_10 : decode cX0_leftChildren 10 = .ok (.if_icmp .ge 24, 3) := by decide +kernel
theorem dX0_leftChildren_13 : decode cX0_leftChildren 13 = .ok (.aload_n 0, 1) := by decide +kernel
theorem dX0_leftChildren_14 : decode cX0_leftChildren 14 = .ok (.iload_n 1, 1) := by decide +kernel
theorem dX0_leftChildren_15 : decode cX0_leftChildren 15 = .ok (.iload_n 3, 1) := by decide +kernel
theorem dX0_leftChildren_16 : decode cX0_leftChildren 16 = .ok (.invokevirtual 58, 3) := by decide +kernel
theorem dX0_leftChildren_19 : decode cX0_leftChildren 19 = .ok (.ifCond .eq 9, 3) := by decide +kernel
theorem dX0_leftChildren_22 : decode cX0_leftChildren 22 = .ok (.iload_n 2, 1) := by decide +kernel
theorem dX0_leftChildren_23 : decode cX0_leftChildren 23 = .ok (.iconst 1, 1) := by decide +kernel
theorem dX0_leftChildren_24 : decode cX0_leftChildren 24 = .ok (.iload_n 3, 1) := by decide +kernel
theorem dX0_leftChildren_25 : decode cX0_leftChildren 25 = .ok (.ishl, 1) := by decide +kernel
theorem dX0_leftChildren_26 : decode cX0_leftChildren 26 = .ok (.ior, 1) := by decide +kernel
theorem dX0_leftChildren_27 : decode cX0_leftChildren 27 = .ok (.istore_n 2, 1) := by decide +kernel
theorem dX0_leftChildren_28 : decode cX0_leftChildren 28 = .ok (.iinc 3 1, 3) := by decide +kernel
theorem dX0_leftChildren_31 : decode cX0_leftChildren 31 = .ok (.goto (-27), 3) := by decide +kernel
theorem dX0_leftChildren_34 : decode cX0_leftChildren 34 = .ok (.iload_n 2, 1) := by decide +kernel
theorem dX0_leftChildren_35 : decode cX0_leftChildren 35 = .ok (.ireturn, 1) := by decide +kernel
theorem dX0_withRightChild_0 : decode cX0_withRightChild 0 = .ok (.iconst 0, 1) := by decide +kernel
theorem dX0_withRightChild_1 : decode cX0_withRightChild 1 = .ok (.istore_n 2, 1) := by decide +kernel
theorem dX0_withRightChild_2 : decode cX0_withRightChild 2 = .ok (.aload_n 0, 1) := by decide +kernel
theorem dX0_withRightChild_3 : decode cX0_withRightChild 3 = .ok (.iload_n 1, 1) := by decide +kernel
theorem dX0_withRightChild_4 : decode cX0_withRightChild 4 = .ok (.invokevirtual 39, 3) := by decide +kernel
theorem dX0_withRightChild_7 : decode cX0_withRightChild 7 = .ok (.istore_n 3, 1) := by decide +kernel
theorem dX0_withRightChild_8 : decode cX0_withRightChild 8 = .ok (.aload_n 0, 1) := by decide +kernel
theorem dX0_withRightChild_9 : decode cX0_withRightChild 9 = .ok (.iload_n 1, 1) := by decide +kernel
theorem dX0_withRightChild_10 : decode cX0_withRightChild 10 = .ok (.invokevirtual 36, 3) := by decide +kernel
theorem dX0_withRightChild_13 : decode cX0_withRightChild 13 = .ok (.istore 4, 2) := by decide +kernel
theorem dX0_withRightChild_15 : decode cX0_withRightChild 15 = .ok (.iload 4, 2) := by decide +kernel
theorem dX0_withRightChild_17 : decode cX0_withRightChild 17 = .ok (.ifCond .le 30, 3) := by decide +kernel
theorem dX0_withRightChild_20 : decode cX0_withRightChild 20 = .ok (.iload_n 2, 1) := by decide +kernel
theorem dX0_withRightChild_21 : decode cX0_withRightChild 21 = .ok (.iconst 1, 1) := by decide +kernel
theorem dX0_withRightChild_22 : decode cX0_withRightChild 22 = .ok (.ishl, 1) := by decide +kernel
theorem dX0_withRightChild_23 : decode cX0_withRightChild 23 = .ok (.iload_n 3, 1) := by decide +kernel
theorem dX0_withRightChild_24 : decode cX0_withRightChild 24 = .ok (.bipush 15, 2) := by decide +kernel
theorem dX0_withRightChild_26 : decode cX0_withRightChild 26 = .ok (.iand, 1) := by decide +kernel
theorem dX0_withRightChild_27 : decode cX0_withRightChild 27 = .ok (.ifCond .le 7, 3) := by decide +kernel
theorem dX0_withRightChild_30 : decode cX0_withRightChild 30 = .ok (.iconst 1, 1) := by decide +kernel
theorem dX0_withRightChild_31 : decode cX0_withRightChild 31 = .ok (.goto 4, 3) := by decide +kernel
theorem dX0_withRightChild_34 : decode cX0_withRightChild 34 = .ok (.iconst 0, 1) := by decide +kernel
theorem dX0_withRightChild_35 : decode cX0_withRightChild 35 = .ok (.ior, 1) := by decide +kernel
theorem dX0_withRightChild_36 : decode cX0_withRightChild 36 = .ok (.istore_n 2, 1) := by decide +kernel
theorem dX0_withRightChild_37 : decode cX0_withRightChild 37 = .ok (.iload_n 3, 1) := by decide +kernel
theorem dX0_withRightChild_38 : decode cX0_withRightChild 38 = .ok (.iconst 4, 1) := by decide +kernel
theorem dX0_withRightChild_39 : decode cX0_withRightChild 39 = .ok (.ishr, 1) := by decide +kernel
theorem dX0_withRightChild_40 : decode cX0_withRightChild 40 = .ok (.istore_n 3, 1) := by decide +kernel
theorem dX0_withRightChild_41 : decode cX0_withRightChild 41 = .ok (.iinc 4 (-1), 3) := by decide +kernel
theorem dX0_withRightChild_44 : decode cX0_withRightChild 44 = .ok (.goto (-29), 3) := by decide +kernel
theorem dX0_withRightChild_47 : decode cX0_withRightChild 47 = .ok (.iload_n 2, 1) := by decide +kernel
theorem dX0_withRightChild_48 : decode cX0_withRightChild 48 = .ok (.ireturn, 1) := by decide +kernel
theorem dX0_howManyWith_0 : decode cX0_howManyWith 0 = .ok (.iconst 0, 1) := by decide +kernel
theorem dX0_howManyWith_1 : decode cX0_howManyWith 1 = .ok (.istore_n 3, 1) := by decide +kernel
theorem dX0_howManyWith_2 : decode cX0_howManyWith 2 = .ok (.aload_n 0, 1) := by decide +kernel
theorem dX0_howManyWith_3 : decode cX0_howManyWith 3 = .ok (.iload_n 1, 1) := by decide +kernel
theorem dX0_howManyWith_4 : decode cX0_howManyWith 4 = .ok (.invokevirtual 33, 3) := by decide +kernel
theorem dX0_howManyWith_7 : decode cX0_howManyWith 7 = .ok (.istore 4, 2) := by decide +kernel
theorem dX0_howManyWith_9 : decode cX0_howManyWith 9 = .ok (.iload 4, 2) := by decide +kernel
theorem dX0_howManyWith_11 : decode cX0_howManyWith 11 = .ok (.aload_n 0, 1) := by decide +kernel
theorem dX0_howManyWith_12 : decode cX0_howManyWith 12 = .ok (.iload_n 1, 1) := by decide +kernel
theorem dX0_howManyWith_13 : decode cX0_howManyWith 13 = .ok (.invokevirtual 29, 3) := by decide +kernel
theorem dX0_howManyWith_16 : decode cX0_howManyWith 16 = .ok (.if_icmp .gt 22, 3) := by decide +kernel
theorem dX0_howManyWith_19 : decode cX0_howManyWith 19 = .ok (.aload_n 0, 1) := by decide +kernel
theorem dX0_howManyWith_20 : decode cX0_howManyWith 20 = .ok (.iload 4, 2) := by decide +kernel
theorem dX0_howManyWith_22 : decode cX0_howManyWith 22 = .ok (.invokevirtual 73, 3) := by decide +kernel
theorem dX0_howManyWith_25 : decode cX0_howManyWith 25 = .ok (.iload_n 2, 1) := by decide +kernel
theorem dX0_howManyWith_26 : decode cX0_howManyWith 26 = .ok (.if_icmp .ne 6, 3) := by decide +kernel
theorem dX0_howManyWith_29 : decode cX0_howManyWith 29 = .ok (.iinc 3 1, 3) := by decide +kernel
theorem dX0_howManyWith_32 : decode cX0_howManyWith 32 = .ok (.iinc 4 1, 3) := by decide +kernel
theorem dX0_howManyWith_35 : decode cX0_howManyWith 35 = .ok (.goto (-26), 3) := by decide +kernel
theorem dX0_howManyWith_38 : decode cX0_howManyWith 38 = .ok (.iload_n 3, 1) := by decide +kernel
theorem dX0_howManyWith_39 : decode cX0_howManyWith 39 = .ok (.ireturn, 1) := by decide +kernel
theorem dX0_leastWith_0 : decode cX0_leastWith 0 = .ok (.aload_n 0, 1) := by decide +kernel
theorem dX0_leastWith_1 : decode cX0_leastWith 1 = .ok (.iload_n 1, 1) := by decide +kernel
theorem dX0_leastWith_2 : decode cX0_leastWith 2 = .ok (.invokevirtual 33, 3) := by decide +kernel
theorem dX0_leastWith_5 : decode cX0_leastWith 5 = .ok (.istore_n 3, 1) := by decide +kernel
theorem dX0_leastWith_6 : decode cX0_leastWith 6 = .ok (.iload_n 3, 1) := by decide +kernel
theorem dX0_leastWith_7 : decode cX0_leastWith 7 = .ok (.aload_n 0, 1) := by decide +kernel
theorem dX0_leastWith_8 : decode cX0_leastWith 8 = .ok (.iload_n 1, 1) := by decide +kernel
theorem dX0_leastWith_9 : decode cX0_leastWith 9 = .ok (.invokevirtual 29, 3) := by decide +kernel
theorem dX0_leastWith_12 : decode cX0_leastWith 12 = .ok (.if_icmp .gt 20, 3) := by decide +kernel
theorem dX0_leastWith_15 : decode cX0_leastWith 15 = .ok (.aload_n 0, 1) := by decide +kernel
theorem dX0_leastWith_16 : decode cX0_leastWith 16 = .ok (.iload_n 3, 1) := by decide +kernel
theorem dX0_leastWith_17 : decode cX0_leastWith 17 = .ok (.invokevirtual 73, 3) := by decide +kernel
theorem dX0_leastWith_20 : decode cX0_leastWith 20 = .ok (.iload_n 2, 1) := by decide +kernel
theorem dX0_leastWith_21 : decode cX0_leastWith 21 = .ok (.if_icmp .ne 5, 3) := by decide +kernel
theorem dX0_leastWith_24 : decode cX0_leastWith 24 = .ok (.iload_n 3, 1) := by decide +kernel
theorem dX0_leastWith_25 : decode cX0_leastWith 25 = .ok (.ireturn, 1) := by decide +kernel
theorem dX0_leastWith_26 : decode cX0_leastWith 26 = .ok (.iinc 3 1, 3) := by decide +kernel
theorem dX0_leastWith_29 : decode cX0_leastWith 29 = .ok (.goto (-23), 3) := by decide +kernel
theorem dX0_leastWith_32 : decode cX0_leastWith 32 = .ok (.iconst 0, 1) := by decide +kernel
theorem dX0_leastWith_33 : decode cX0_leastWith 33 = .ok (.ireturn, 1) := by decide +kernel
theorem dX0_greatestWith_0 : decode cX0_greatestWith 0 = .ok (.aload_n 0, 1) := by decide +kernel
theorem dX0_greatestWith_1 : decode cX0_greatestWith 1 = .ok (.iload_n 1, 1) := by decide +kernel
theorem dX0_greatestWith_2 : decode cX0_greatestWith 2 = .ok (.invokevirtual 29, 3) := by decide +kernel
theorem dX0_greatestWith_5 : decode cX0_greatestWith 5 = .ok (.istore_n 3, 1) := by decide +kernel
theorem dX0_greatestWith_6 : decode cX0_greatestWith 6 = .ok (.iload_n 3, 1) := by decide +kernel
theorem dX0_greatestWith_7 : decode cX0_greatestWith 7 = .ok (.aload_n 0, 1) := by decide +kernel
theorem dX0_greatestWith_8 : decode cX0_greatestWith 8 = .ok (.iload_n 1, 1) := by decide +kernel
theorem dX0_greatestWith_9 : decode cX0_greatestWith 9 = .ok (.invokevirtual 33, 3) := by decide +kernel
theorem dX0_greatestWith_12 : decode cX0_greatestWith 12 = .ok (.if_icmp .lt 20, 3) := by decide +kernel
theorem dX0_greatestWith_15 : decode cX0_greatestWith 15 = .ok (.aload_n 0, 1) := by decide +kernel
theorem dX0_greatestWith_16 : decode cX0_greatestWith 16 = .ok (.iload_n 3, 1) := by decide +kernel
theorem dX0_greatestWith_17 : decode cX0_greatestWith 17 = .ok (.invokevirtual 73, 3) := by decide +kernel
theorem dX0_greatestWith_20 : decode cX0_greatestWith 20 = .ok (.iload_n 2, 1) := by decide +kernel
theorem dX0_greatestWith_21 : decode cX0_greatestWith 21 = .ok (.if_icmp .ne 5, 3) := by decide +kernel
theorem dX0_greatestWith_24 : decode cX0_greatestWith 24 = .ok (.iload_n 3, 1) := by decide +kernel
theorem dX0_greatestWith_25 : decode cX0_greatestWith 25 = .ok (.ireturn, 1) := by decide +kernel
theorem dX0_greatestWith_26 : decode cX0_greatestWith 26 = .ok (.iinc 3 (-1), 3) := by decide +kernel
theorem dX0_greatestWith_29 : decode cX0_greatestWith 29 = .ok (.goto (-23), 3) := by decide +kernel
theorem dX0_greatestWith_32 : decode cX0_greatestWith 32 = .ok (.iconst 0, 1) := by decide +kernel
theorem dX0_greatestWith_33 : decode cX0_greatestWith 33 = .ok (.ireturn, 1) := by decide +kernel
theorem dX0_mirrored_0 : decode cX0_mirrored 0 = .ok (.aload_n 0, 1) := by decide +kernel
theorem dX0_mirrored_1 : decode cX0_mirrored 1 = .ok (.iload_n 1, 1) := by decide +kernel
theorem dX0_mirrored_2 : decode cX0_mirrored 2 = .ok (.invokevirtual 36, 3) := by decide +kernel
theorem dX0_mirrored_5 : decode cX0_mirrored 5 = .ok (.istore_n 2, 1) := by decide +kernel
theorem dX0_mirrored_6 : decode cX0_mirrored 6 = .ok (.iconst 0, 1) := by decide +kernel
theorem dX0_mirrored_7 : decode cX0_mirrored 7 = .ok (.istore_n 3, 1) := by decide +kernel
theorem dX0_mirrored_8 : decode cX0_mirrored 8 = .ok (.iconst 0, 1) := by decide +kernel
theorem dX0_mirrored_9 : decode cX0_mirrored 9 = .ok (.istore 4, 2) := by decide +kernel
theorem dX0_mirrored_11 : decode cX0_mirrored 11 = .ok (.iload 4, 2) := by decide +kernel
theorem dX0_mirrored_13 : decode cX0_mirrored 13 = .ok (.iload_n 2, 1) := by decide +kernel
theorem dX0_mirrored_14 : decode cX0_mirrored 14 = .ok (.if_icmp .ge 29, 3) := by decide +kernel
theorem dX0_mirrored_17 : decode cX0_mirrored 17 = .ok (.iload_n 3, 1) := by decide +kernel
theorem dX0_mirrored_18 : decode cX0_mirrored 18 = .ok (.aload_n 0, 1) := by decide +kernel
theorem dX0_mirrored_19 : decode cX0_mirrored 19 = .ok (.iload_n 1, 1) := by decide +kernel
theorem dX0_mirrored_20 : decode cX0_mirrored 20 = .ok (.iload 4, 2) := by decide +kernel
theorem dX0_mirrored_22 : decode cX0_mirrored 22 = .ok (.invokevirtual 52, 3) := by decide +kernel
theorem dX0_mirrored_25 : decode cX0_mirrored 25 = .ok (.iload_n 2, 1) := by decide +kernel
theorem dX0_mirrored_26 : decode cX0_mirrored 26 = .ok (.iload_n 2, 1) := by decide +kernel
theorem dX0_mirrored_27 : decode cX0_mirrored 27 = .ok (.iconst 1, 1) := by decide +kernel
theorem dX0_mirrored_28 : decode cX0_mirrored 28 = .ok (.isub, 1) := by decide +kernel
theorem dX0_mirrored_29 : decode cX0_mirrored 29 = .ok (.iload 4, 2) := by decide +kernel
theorem dX0_mirrored_31 : decode cX0_mirrored 31 = .ok (.isub, 1) := by decide +kernel
theorem dX0_mirrored_32 : decode cX0_mirrored 32 = .ok (.invokestatic 62, 3) := by decide +kernel
theorem dX0_mirrored_35 : decode cX0_mirrored 35 = .ok (.ior, 1) := by decide +kernel
theorem dX0_mirrored_36 : decode cX0_mirrored 36 = .ok (.istore_n 3, 1) := by decide +kernel
theorem dX0_mirrored_37 : decode cX0_mirrored 37 = .ok (.iinc 4 1, 3) := by decide +kernel
theorem dX0_mirrored_40 : decode cX0_mirrored 40 = .ok (.goto (-29), 3) := by decide +kernel
theorem dX0_mirrored_43 : decode cX0_mirrored 43 = .ok (.aload_n 0, 1) := by decide +kernel
theorem dX0_mirrored_44 : decode cX0_mirrored 44 = .ok (.iload_n 2, 1) := by decide +kernel
theorem dX0_mirrored_45 : decode cX0_mirrored 45 = .ok (.iload_n 3, 1) := by decide +kernel
theorem dX0_mirrored_46 : decode cX0_mirrored 46 = .ok (.invokevirtual 42, 3) := by decide +kernel
theorem dX0_mirrored_49 : decode cX0_mirrored 49 = .ok (.ireturn, 1) := by decide +kernel
theorem dX0_setOver_0 : decode cX0_setOver 0 = .ok (.aload_n 0, 1) := by decide +kernel
theorem dX0_setOver_1 : decode cX0_setOver 1 = .ok (.aload_n 0, 1) := by decide +kernel
theorem dX0_setOver_2 : decode cX0_setOver 2 = .ok (.iload_n 1, 1) := by decide +kernel
theorem dX0_setOver_3 : decode cX0_setOver 3 = .ok (.invokevirtual 39, 3) := by decide +kernel
theorem dX0_setOver_6 : decode cX0_setOver 6 = .ok (.iload_n 1, 1) := by decide +kernel
theorem dX0_setOver_7 : decode cX0_setOver 7 = .ok (.iload_n 2, 1) := by decide +kernel
theorem dX0_setOver_8 : decode cX0_setOver 8 = .ok (.invokevirtual 76, 3) := by decide +kernel
theorem dX0_setOver_11 : decode cX0_setOver 11 = .ok (.ireturn, 1) := by decide +kernel
theorem dX0_setUnder_0 : decode cX0_setUnder 0 = .ok (.aload_n 0, 1) := by decide +kernel
theorem dX0_setUnder_1 : decode cX0_setUnder 1 = .ok (.iload_n 1, 1) := by decide +kernel
theorem dX0_setUnder_2 : decode cX0_setUnder 2 = .ok (.invokevirtual 36, 3) := by decide +kernel
theorem dX0_setUnder_5 : decode cX0_setUnder 5 = .ok (.istore_n 3, 1) := by decide +kernel
theorem dX0_setUnder_6 : decode cX0_setUnder 6 = .ok (.aload_n 0, 1) := by decide +kernel
theorem dX0_setUnder_7 : decode cX0_setUnder 7 = .ok (.iload_n 1, 1) := by decide +kernel
theorem dX0_setUnder_8 : decode cX0_setUnder 8 = .ok (.invokevirtual 39, 3) := by decide +kernel
theorem dX0_setUnder_11 : decode cX0_setUnder 11 = .ok (.istore 4, 2) := by decide +kernel
theorem dX0_setUnder_13 : decode cX0_setUnder 13 = .ok (.iconst 0, 1) := by decide +kernel
theorem dX0_setUnder_14 : decode cX0_setUnder 14 = .ok (.istore 5, 2) := by decide +kernel
theorem dX0_setUnder_16 : decode cX0_setUnder 16 = .ok (.iload 5, 2) := by decide +kernel
theorem dX0_setUnder_18 : decode cX0_setUnder 18 = .ok (.iload_n 3, 1) := by decide +kernel
theorem dX0_setUnder_19 : decode cX0_setUnder 19 = .ok (.if_icmp .ge 38, 3) := by decide +kernel
theorem dX0_setUnder_22 : decode cX0_setUnder 22 = .ok (.aload_n 0, 1) := by decide +kernel
theorem dX0_setUnder_23 : decode cX0_setUnder 23 = .ok (.iload_n 1, 1) := by decide +kernel
theorem dX0_setUnder_24 : decode cX0_setUnder 24 = .ok (.iload 5, 2) := by decide +kernel
theorem dX0_setUnder_26 : decode cX0_setUnder 26 = .ok (.invokevirtual 49, 3) := by decide +kernel
theorem dX0_setUnder_29 : decode cX0_setUnder 29 = .ok (.iload_n 3, 1) := by decide +kernel
theorem dX0_setUnder_30 : decode cX0_setUnder 30 = .ok (.iconst 1, 1) := by decide +kernel
theorem dX0_setUnder_31 : decode cX0_setUnder 31 = .ok (.isub, 1) := by decide +kernel
theorem dX0_setUnder_32 : decode cX0_setUnder 32 = .ok (.if_icmp .ne 19, 3) := by decide +kernel
theorem dX0_setUnder_35 : decode cX0_setUnder 35 = .ok (.iload 4, 2) := by decide +kernel
theorem dX0_setUnder_37 : decode cX0_setUnder 37 = .ok (.aload_n 0, 1) := by decide +kernel
theorem dX0_setUnder_38 : decode cX0_setUnder 38 = .ok (.iload_n 2, 1) := by decide +kernel
theorem dX0_setUnder_39 : decode cX0_setUnder 39 = .ok (.invokevirtual 36, 3) := by decide +kernel
theorem dX0_setUnder_42 : decode cX0_setUnder 42 = .ok (.iload_n 3, 1) := by decide +kernel
theorem dX0_setUnder_43 : decode cX0_setUnder 43 = .ok (.iload 5, 2) := by decide +kernel
theorem dX0_setUnder_45 : decode cX0_setUnder 45 = .ok (.invokestatic 62, 3) := by decide +kernel
theorem dX0_setUnder_48 : decode cX0_setUnder 48 = .ok (.iadd, 1) := by decide +kernel
theorem dX0_setUnder_49 : decode cX0_setUnder 49 = .ok (.istore 4, 2) := by decide +kernel
theorem dX0_setUnder_51 : decode cX0_setUnder 51 = .ok (.iinc 5 1, 3) := by decide +kernel
theorem dX0_setUnder_54 : decode cX0_setUnder 54 = .ok (.goto (-38), 3) := by decide +kernel
theorem dX0_setUnder_57 : decode cX0_setUnder 57 = .ok (.aload_n 0, 1) := by decide +kernel
theorem dX0_setUnder_58 : decode cX0_setUnder 58 = .ok (.iload 4, 2) := by decide +kernel
theorem dX0_setUnder_60 : decode cX0_setUnder 60 = .ok (.iload_n 1, 1) := by decide +kernel
theorem dX0_setUnder_61 : decode cX0_setUnder 61 = .ok (.iload_n 2, 1) := by decide +kernel
theorem dX0_setUnder_62 : decode cX0_setUnder 62 = .ok (.invokevirtual 76, 3) := by decide +kernel
theorem dX0_setUnder_65 : decode cX0_setUnder 65 = .ok (.ireturn, 1) := by decide +kernel
theorem dX0_sideBySide_0 : decode cX0_sideBySide 0 = .ok (.aload_n 0, 1) := by decide +kernel
theorem dX0_sideBySide_1 : decode cX0_sideBySide 1 = .ok (.aload_n 0, 1) := by decide +kernel
theorem dX0_sideBySide_2 : decode cX0_sideBySide 2 = .ok (.iload_n 2, 1) := by decide +kernel
theorem dX0_sideBySide_3 : decode cX0_sideBySide 3 = .ok (.invokevirtual 36, 3) := by decide +kernel
theorem dX0_sideBySide_6 : decode cX0_sideBySide 6 = .ok (.aload_n 0, 1) := by decide +kernel
theorem dX0_sideBySide_7 : decode cX0_sideBySide 7 = .ok (.iload_n 3, 1) := by decide +kernel
theorem dX0_sideBySide_8 : decode cX0_sideBySide 8 = .ok (.invokevirtual 36, 3) := by decide +kernel
theorem dX0_sideBySide_11 : decode cX0_sideBySide 11 = .ok (.iadd, 1) := by decide +kernel
theorem dX0_sideBySide_12 : decode cX0_sideBySide 12 = .ok (.iload_n 1, 1) := by decide +kernel
theorem dX0_sideBySide_13 : decode cX0_sideBySide 13 = .ok (.iconst 4, 1) := by decide +kernel
theorem dX0_sideBySide_14 : decode cX0_sideBySide 14 = .ok (.aload_n 0, 1) := by decide +kernel
theorem dX0_sideBySide_15 : decode cX0_sideBySide 15 = .ok (.iload_n 3, 1) := by decide +kernel
theorem dX0_sideBySide_16 : decode cX0_sideBySide 16 = .ok (.invokevirtual 36, 3) := by decide +kernel
theorem dX0_sideBySide_19 : decode cX0_sideBySide 19 = .ok (.imul, 1) := by decide +kernel
theorem dX0_sideBySide_20 : decode cX0_sideBySide 20 = .ok (.ishl, 1) := by decide +kernel
theorem dX0_sideBySide_21 : decode cX0_sideBySide 21 = .ok (.aload_n 0, 1) := by decide +kernel
theorem dX0_sideBySide_22 : decode cX0_sideBySide 22 = .ok (.iload_n 3, 1) := by decide +kernel
theorem dX0_sideBySide_23 : decode cX0_sideBySide 23 = .ok (.invokevirtual 39, 3) := by decide +kernel
theorem dX0_sideBySide_26 : decode cX0_sideBySide 26 = .ok (.ior, 1) := by decide +kernel
theorem dX0_sideBySide_27 : decode cX0_sideBySide 27 = .ok (.invokevirtual 42, 3) := by decide +kernel
theorem dX0_sideBySide_30 : decode cX0_sideBySide 30 = .ok (.ireturn, 1) := by decide +kernel
theorem dX0_textLength_0 : decode cX0_textLength 0 = .ok (.iconst 3, 1) := by decide +kernel
theorem dX0_textLength_1 : decode cX0_textLength 1 = .ok (.aload_n 0, 1) := by decide +kernel
theorem dX0_textLength_2 : decode cX0_textLength 2 = .ok (.iload_n 1, 1) := by decide +kernel
theorem dX0_textLength_3 : decode cX0_textLength 3 = .ok (.invokevirtual 36, 3) := by decide +kernel
theorem dX0_textLength_6 : decode cX0_textLength 6 = .ok (.imul, 1) := by decide +kernel
theorem dX0_textLength_7 : decode cX0_textLength 7 = .ok (.iconst 1, 1) := by decide +kernel
theorem dX0_textLength_8 : decode cX0_textLength 8 = .ok (.iadd, 1) := by decide +kernel
theorem dX0_textLength_9 : decode cX0_textLength 9 = .ok (.ireturn, 1) := by decide +kernel
theorem dX0_textByte_0 : decode cX0_textByte 0 = .ok (.iload_n 2, 1) := by decide +kernel
theorem dX0_textByte_1 : decode cX0_textByte 1 = .ok (.ifCond .ge 5, 3) := by decide +kernel
theorem dX0_textByte_4 : decode cX0_textByte 4 = .ok (.iconst (-1), 1) := by decide +kernel
theorem dX0_textByte_5 : decode cX0_textByte 5 = .ok (.ireturn, 1) := by decide +kernel
theorem dX0_textByte_6 : decode cX0_textByte 6 = .ok (.iconst 0, 1) := by decide +kernel
theorem dX0_textByte_7 : decode cX0_textByte 7 = .ok (.istore_n 3, 1) := by decide +kernel
theorem dX0_textByte_8 : decode cX0_textByte 8 = .ok (.iconst 0, 1) := by decide +kernel
theorem dX0_textByte_9 : decode cX0_textByte 9 = .ok (.istore 4, 2) := by decide +kernel
theorem dX0_textByte_11 : decode cX0_textByte 11 = .ok (.iload 4, 2) := by decide +kernel
theorem dX0_textByte_13 : decode cX0_textByte 13 = .ok (.aload_n 0, 1) := by decide +kernel
theorem dX0_textByte_14 : decode cX0_textByte 14 = .ok (.iload_n 1, 1) := by decide +kernel
theorem dX0_textByte_15 : decode cX0_textByte 15 = .ok (.invokevirtual 36, 3) := by decide +kernel
theorem dX0_textByte_18 : decode cX0_textByte 18 = .ok (.if_icmp .gt 55, 3) := by decide +kernel
theorem dX0_textByte_21 : decode cX0_textByte 21 = .ok (.iload_n 3, 1) := by decide +kernel
theorem dX0_textByte_22 : decode cX0_textByte 22 = .ok (.aload_n 0, 1) := by decide +kernel
theorem dX0_textByte_23 : decode cX0_textByte 23 = .ok (.iload_n 1, 1) := by decide +kernel
theorem dX0_textByte_24 : decode cX0_textByte 24 = .ok (.iload 4, 2) := by decide +kernel
theorem dX0_textByte_26 : decode cX0_textByte 26 = .ok (.invokevirtual 79, 3) := by decide +kernel
theorem dX0_textByte_29 : decode cX0_textByte 29 = .ok (.iadd, 1) := by decide +kernel
theorem dX0_textByte_30 : decode cX0_textByte 30 = .ok (.istore_n 3, 1) := by decide +kernel
theorem dX0_textByte_31 : decode cX0_textByte 31 = .ok (.iload_n 2, 1) := by decide +kernel
theorem dX0_textByte_32 : decode cX0_textByte 32 = .ok (.iload_n 3, 1) := by decide +kernel
theorem dX0_textByte_33 : decode cX0_textByte 33 = .ok (.if_icmp .ge 6, 3) := by decide +kernel
theorem dX0_textByte_36 : decode cX0_textByte 36 = .ok (.bipush 40, 2) := by decide +kernel
theorem dX0_textByte_38 : decode cX0_textByte 38 = .ok (.ireturn, 1) := by decide +kernel
theorem dX0_textByte_39 : decode cX0_textByte 39 = .ok (.iload_n 2, 1) := by decide +kernel
theorem dX0_textByte_40 : decode cX0_textByte 40 = .ok (.iload_n 3, 1) := by decide +kernel
theorem dX0_textByte_41 : decode cX0_textByte 41 = .ok (.if_icmp .ne 6, 3) := by decide +kernel
theorem dX0_textByte_44 : decode cX0_textByte 44 = .ok (.bipush 46, 2) := by decide +kernel
theorem dX0_textByte_46 : decode cX0_textByte 46 = .ok (.ireturn, 1) := by decide +kernel
theorem dX0_textByte_47 : decode cX0_textByte 47 = .ok (.iload_n 3, 1) := by decide +kernel
theorem dX0_textByte_48 : decode cX0_textByte 48 = .ok (.iconst 1, 1) := by decide +kernel
theorem dX0_textByte_49 : decode cX0_textByte 49 = .ok (.aload_n 0, 1) := by decide +kernel
theorem dX0_textByte_50 : decode cX0_textByte 50 = .ok (.iload_n 1, 1) := by decide +kernel
theorem dX0_textByte_51 : decode cX0_textByte 51 = .ok (.iload 4, 2) := by decide +kernel
theorem dX0_textByte_53 : decode cX0_textByte 53 = .ok (.invokevirtual 82, 3) := by decide +kernel
theorem dX0_textByte_56 : decode cX0_textByte 56 = .ok (.iadd, 1) := by decide +kernel
theorem dX0_textByte_57 : decode cX0_textByte 57 = .ok (.iadd, 1) := by decide +kernel
theorem dX0_textByte_58 : decode cX0_textByte 58 = .ok (.istore_n 3, 1) := by decide +kernel
theorem dX0_textByte_59 : decode cX0_textByte 59 = .ok (.iload_n 2, 1) := by decide +kernel
theorem dX0_textByte_60 : decode cX0_textByte 60 = .ok (.iload_n 3, 1) := by decide +kernel
theorem dX0_textByte_61 : decode cX0_textByte 61 = .ok (.if_icmp .ge 6, 3) := by decide +kernel
theorem dX0_textByte_64 : decode cX0_textByte 64 = .ok (.bipush 41, 2) := by decide +kernel
theorem dX0_textByte_66 : decode cX0_textByte 66 = .ok (.ireturn, 1) := by decide +kernel
theorem dX0_textByte_67 : decode cX0_textByte 67 = .ok (.iinc 4 1, 3) := by decide +kernel
theorem dX0_textByte_70 : decode cX0_textByte 70 = .ok (.goto (-59), 3) := by decide +kernel
theorem dX0_textByte_73 : decode cX0_textByte 73 = .ok (.iconst (-1), 1) := by decide +kernel
theorem dX0_textByte_74 : decode cX0_textByte 74 = .ok (.ireturn, 1) := by decide +kernel
theorem dX0_opening_0 : decode cX0_opening 0 = .ok (.iconst 0, 1) := by decide +kernel
theorem dX0_opening_1 : decode cX0_opening 1 = .ok (.istore_n 3, 1) := by decide +kernel
theorem dX0_opening_2 : decode cX0_opening 2 = .ok (.iload_n 2, 1) := by decide +kernel
theorem dX0_opening_3 : decode cX0_opening 3 = .ok (.istore 4, 2) := by decide +kernel
theorem dX0_opening_5 : decode cX0_opening 5 = .ok (.iload 4, 2) := by decide +kernel
theorem dX0_opening_7 : decode cX0_opening 7 = .ok (.aload_n 0, 1) := by decide +kernel
theorem dX0_opening_8 : decode cX0_opening 8 = .ok (.iload_n 1, 1) := by decide +kernel
theorem dX0_opening_9 : decode cX0_opening 9 = .ok (.invokevirtual 36, 3) := by decide +kernel
theorem dX0_opening_12 : decode cX0_opening 12 = .ok (.if_icmp .ge 26, 3) := by decide +kernel
theorem dX0_opening_15 : decode cX0_opening 15 = .ok (.iload 4, 2) := by decide +kernel
theorem dX0_opening_17 : decode cX0_opening 17 = .ok (.aload_n 0, 1) := by decide +kernel
theorem dX0_opening_18 : decode cX0_opening 18 = .ok (.iload_n 1, 1) := by decide +kernel
theorem dX0_opening_19 : decode cX0_opening 19 = .ok (.iload 4, 2) := by decide +kernel
theorem dX0_opening_21 : decode cX0_opening 21 = .ok (.invokevirtual 52, 3) := by decide +kernel
theorem dX0_opening_24 : decode cX0_opening 24 = .ok (.isub, 1) := by decide +kernel
theorem dX0_opening_25 : decode cX0_opening 25 = .ok (.iload_n 2, 1) := by decide +kernel
theorem dX0_opening_26 : decode cX0_opening 26 = .ok (.if_icmp .ne 6, 3) := by decide +kernel
theorem dX0_opening_29 : decode cX0_opening 29 = .ok (.iinc 3 1, 3) := by decide +kernel
theorem dX0_opening_32 : decode cX0_opening 32 = .ok (.iinc 4 1, 3) := by decide +kernel
theorem dX0_opening_35 : decode cX0_opening 35 = .ok (.goto (-30), 3) := by decide +kernel
theorem dX0_opening_38 : decode cX0_opening 38 = .ok (.iload_n 3, 1) := by decide +kernel
theorem dX0_opening_39 : decode cX0_opening 39 = .ok (.ireturn, 1) := by decide +kernel
theorem dX0_closing_0 : decode cX0_closing 0 = .ok (.iconst 0, 1) := by decide +kernel
theorem dX0_closing_1 : decode cX0_closing 1 = .ok (.istore_n 3, 1) := by decide +kernel
theorem dX0_closing_2 : decode cX0_closing 2 = .ok (.iconst 0, 1) := by decide +kernel
theorem dX0_closing_3 : decode cX0_closing 3 = .ok (.istore 4, 2) := by decide +kernel
theorem dX0_closing_5 : decode cX0_closing 5 = .ok (.iload 4, 2) := by decide +kernel
theorem dX0_closing_7 : decode cX0_closing 7 = .ok (.iload_n 2, 1) := by decide +kernel
theorem dX0_closing_8 : decode cX0_closing 8 = .ok (.if_icmp .ge 25, 3) := by decide +kernel
theorem dX0_closing_11 : decode cX0_closing 11 = .ok (.aload_n 0, 1) := by decide +kernel
theorem dX0_closing_12 : decode cX0_closing 12 = .ok (.iload_n 1, 1) := by decide +kernel
theorem dX0_closing_13 : decode cX0_closing 13 = .ok (.iload 4, 2) := by decide +kernel
theorem dX0_closing_15 : decode cX0_closing 15 = .ok (.invokevirtual 49, 3) := by decide +kernel
theorem dX0_closing_18 : decode cX0_closing 18 = .ok (.iconst 1, 1) := by decide +kernel
theorem dX0_closing_19 : decode cX0_closing 19 = .ok (.iadd, 1) := by decide +kernel
theorem dX0_closing_20 : decode cX0_closing 20 = .ok (.iload_n 2, 1) := by decide +kernel
theorem dX0_closing_21 : decode cX0_closing 21 = .ok (.if_icmp .ne 6, 3) := by decide +kernel
theorem dX0_closing_24 : decode cX0_closing 24 = .ok (.iinc 3 1, 3) := by decide +kernel
theorem dX0_closing_27 : decode cX0_closing 27 = .ok (.iinc 4 1, 3) := by decide +kernel
theorem dX0_closing_30 : decode cX0_closing 30 = .ok (.goto (-25), 3) := by decide +kernel
theorem dX0_closing_33 : decode cX0_closing 33 = .ok (.iload_n 3, 1) := by decide +kernel
theorem dX0_closing_34 : decode cX0_closing 34 = .ok (.ireturn, 1) := by decide +kernel
theorem dX1_init_0 : decode cX1_init 0 = .ok (.aload_n 0, 1) := by decide +kernel
theorem dX1_init_1 : decode cX1_init 1 = .ok (.invokespecial 3, 3) := by decide +kernel
theorem dX1_init_4 : decode cX1_init 4 = .ok (.aload_n 0, 1) := by decide +kernel
theorem dX1_init_5 : decode cX1_init 5 = .ok (.iconst 3, 1) := by decide +kernel
theorem dX1_init_6 : decode cX1_init 6 = .ok (.bipush 20, 2) := by decide +kernel
theorem dX1_init_8 : decode cX1_init 8 = .ok (.multianewarray 11 2, 4) := by decide +kernel
theorem dX1_init_12 : decode cX1_init 12 = .ok (.putfield 13, 3) := by decide +kernel
theorem dX1_init_15 : decode cX1_init 15 = .ok (.aload_n 0, 1) := by decide +kernel
theorem dX1_init_16 : decode cX1_init 16 = .ok (.iconst 3, 1) := by decide +kernel
theorem dX1_init_17 : decode cX1_init 17 = .ok (.newarray .int, 2) := by decide +kernel
theorem dX1_init_19 : decode cX1_init 19 = .ok (.putfield 16, 3) := by decide +kernel
theorem dX1_init_22 : decode cX1_init 22 = .ok (.aload_n 0, 1) := by decide +kernel
theorem dX1_init_23 : decode cX1_init 23 = .ok (.getfield 16, 3) := by decide +kernel
theorem dX1_init_26 : decode cX1_init 26 = .ok (.iconst (-1), 1) := by decide +kernel
theorem dX1_init_27 : decode cX1_init 27 = .ok (.invokestatic 20, 3) := by decide +kernel
theorem dX1_init_30 : decode cX1_init 30 = .ok (.return_, 1) := by decide +kernel
theorem dX1_isList_0 : decode cX1_isList 0 = .ok (.iload_n 0, 1) := by decide +kernel
theorem dX1_isList_1 : decode cX1_isList 1 = .ok (.ifCond .lt 12, 3) := by decide +kernel
theorem dX1_isList_4 : decode cX1_isList 4 = .ok (.iload_n 0, 1) := by decide +kernel
theorem dX1_isList_5 : decode cX1_isList 5 = .ok (.iconst 3, 1) := by decide +kernel
theorem dX1_isList_6 : decode cX1_isList 6 = .ok (.if_icmp .ge 7, 3) := by decide +kernel
theorem dX1_isList_9 : decode cX1_isList 9 = .ok (.iconst 1, 1) := by decide +kernel
theorem dX1_isList_10 : decode cX1_isList 10 = .ok (.goto 4, 3) := by decide +kernel
theorem dX1_isList_13 : decode cX1_isList 13 = .ok (.iconst 0, 1) := by decide +kernel
theorem dX1_isList_14 : decode cX1_isList 14 = .ok (.ireturn, 1) := by decide +kernel
theorem dX1_lengthOf_0 : decode cX1_lengthOf 0 = .ok (.iload_n 1, 1) := by decide +kernel
theorem dX1_lengthOf_1 : decode cX1_lengthOf 1 = .ok (.invokestatic 26, 3) := by decide +kernel
theorem dX1_lengthOf_4 : decode cX1_lengthOf 4 = .ok (.ifCond .eq 12, 3) := by decide +kernel
theorem dX1_lengthOf_7 : decode cX1_lengthOf 7 = .ok (.aload_n 0, 1) := by decide +kernel
theorem dX1_lengthOf_8 : decode cX1_lengthOf 8 = .ok (.getfield 16, 3) := by decide +kernel
theorem dX1_lengthOf_11 : decode cX1_lengthOf 11 = .ok (.iload_n 1, 1) := by decide +kernel
theorem dX1_lengthOf_12 : decode cX1_lengthOf 12 = .ok (.iaload, 1) := by decide +kernel
theorem dX1_lengthOf_13 : decode cX1_lengthOf 13 = .ok (.goto 4, 3) := by decide +kernel
theorem dX1_lengthOf_16 : decode cX1_lengthOf 16 = .ok (.iconst (-1), 1) := by decide +kernel
theorem dX1_lengthOf_17 : decode cX1_lengthOf 17 = .ok (.ireturn, 1) := by decide +kernel
theorem dX1_isThere_0 : decode cX1_isThere 0 = .ok (.aload_n 0, 1) := by decide +kernel
theorem dX1_isThere_1 : decode cX1_isThere 1 = .ok (.iload_n 1, 1) := by decide +kernel
theorem dX1_isThere_2 : decode cX1_isThere 2 = .ok (.invokevirtual 30, 3) := by decide +kernel
theorem dX1_isThere_5 : decode cX1_isThere 5 = .ok (.iconst (-1), 1) := by decide +kernel
theorem dX1_isThere_6 : decode cX1_isThere 6 = .ok (.if_icmp .eq 7, 3) := by decide +kernel
theorem dX1_isThere_9 : decode cX1_isThere 9 = .ok (.iconst 1, 1) := by decide +kernel
theorem dX1_isThere_10 : decode cX1_isThere 10 = .ok (.goto 4, 3) := by decide +kernel
theorem dX1_isThere_13 : decode cX1_isThere 13 = .ok (.iconst 0, 1) := by decide +kernel
theorem dX1_isThere_14 : decode cX1_isThere 14 = .ok (.ireturn, 1) := by decide +kernel
theorem dX1_isPlace_0 : decode cX1_isPlace 0 = .ok (.iload_n 2, 1) := by decide +kernel
theorem dX1_isPlace_1 : decode cX1_isPlace 1 = .ok (.ifCond .lt 16, 3) := by decide +kernel
theorem dX1_isPlace_4 : decode cX1_isPlace 4 = .ok (.iload_n 2, 1) := by decide +kernel
theorem dX1_isPlace_5 : decode cX1_isPlace 5 = .ok (.aload_n 0, 1) := by decide +kernel
theorem dX1_isPlace_6 : decode cX1_isPlace 6 = .ok (.iload_n 1, 1) := by decide +kernel
theorem dX1_isPlace_7 : decode cX1_isPlace 7 = .ok (.invokevirtual 30, 3) := by decide +kernel
theorem dX1_isPlace_10 : decode cX1_isPlace 10 = .ok (.if_icmp .ge 7, 3) := by decide +kernel
theorem dX1_isPlace_13 : decode cX1_isPlace 13 = .ok (.iconst 1, 1) := by decide +kernel
theorem dX1_isPlace_14 : decode cX1_isPlace 14 = .ok (.goto 4, 3) := by decide +kernel
theorem dX1_isPlace_17 : decode cX1_isPlace 17 = .ok (.iconst 0, 1) := by decide +kernel
theorem dX1_isPlace_18 : decode cX1_isPlace 18 = .ok (.ireturn, 1) := by decide +kernel
theorem dX1_renew_0 : decode cX1_renew 0 = .ok (.iload_n 1, 1) := by decide +kernel
theorem dX1_renew_1 : decode cX1_renew 1 = .ok (.invokestatic 26, 3) := by decide +kernel
theorem dX1_renew_4 : decode cX1_renew 4 = .ok (.ifCond .eq 31, 3) := by decide +kernel
theorem dX1_renew_7 : decode cX1_renew 7 = .ok (.iload_n 2, 1) := by decide +kernel
theorem dX1_renew_8 : decode cX1_renew 8 = .ok (.iconst (-1), 1) := by decide +kernel
theorem dX1_renew_9 : decode cX1_renew 9 = .ok (.if_icmp .lt 26, 3) := by decide +kernel
theorem dX1_renew_12 : decode cX1_renew 12 = .ok (.iload_n 2, 1) := by decide +kernel
theorem dX1_renew_13 : decode cX1_renew 13 = .ok (.bipush 20, 2) := by decide +kernel
theorem dX1_renew_15 : decode cX1_renew 15 = .ok (.if_icmp .gt 20, 3) := by decide +kernel
theorem dX1_renew_18 : decode cX1_renew 18 = .ok (.aload_n 0, 1) := by decide +kernel
theorem dX1_renew_19 : decode cX1_renew 19 = .ok (.getfield 13, 3) := by decide +kernel
theorem dX1_renew_22 : decode cX1_renew 22 = .ok (.iload_n 1, 1) := by decide +kernel
theorem dX1_renew_23 : decode cX1_renew 23 = .ok (.aaload, 1) := by decide +kernel
theorem dX1_renew_24 : decode cX1_renew 24 = .ok (.lconst 0, 1) := by decide +kernel
theorem dX1_renew_25 : decode cX1_renew 25 = .ok (.invokestatic 34, 3) := by decide +kernel
theorem dX1_renew_28 : decode cX1_renew 28 = .ok (.aload_n 0, 1) := by decide +kernel
theorem dX1_renew_29 : decode cX1_renew 29 = .ok (.getfield 16, 3) := by decide +kernel
theorem dX1_renew_32 : decode cX1_renew 32 = .ok (.iload_n 1, 1) := by decide +kernel
theorem dX1_renew_33 : decode cX1_renew 33 = .ok (.iload_n 2, 1) := by decide +kernel
theorem dX1_renew_34 : decode cX1_renew 34 = .ok (.iastore, 1) := by decide +kernel
theorem dX1_renew_35 : decode cX1_renew 35 = .ok (.return_, 1) := by decide +kernel
theorem dX1_store_0 : decode cX1_store 0 = .ok (.aload_n 0, 1) := by decide +kernel
theorem dX1_store_1 : decode cX1_store 1 = .ok (.iload_n 1, 1) := by decide +kernel
theorem dX1_store_2 : decode cX1_store 2 = .ok (.iload_n 2, 1) := by decide +kernel
theorem dX1_store_3 : decode cX1_store 3 = .ok (.invokevirtual 37, 3) := by decide +kernel
theorem dX1_store_6 : decode cX1_store 6 = .ok (.ifCond .eq 12, 3) := by decide +kernel
theorem dX1_store_9 : decode cX1_store 9 = .ok (.aload_n 0, 1) := by decide +kernel
theorem dX1_store_10 : decode cX1_store 10 = .ok (.getfield 13, 3) := by decide +kernel
theorem dX1_store_13 : decode cX1_store 13 = .ok (.iload_n 1, 1) := by decide +kernel
theorem dX1_store_14 : decode cX1_store 14 = .ok (.aaload, 1) := by decide +kernel
theorem dX1_store_15 : decode cX1_store 15 = .ok (.iload_n 2, 1) := by decide +kernel
theorem dX1_store_16 : decode cX1_store 16 = .ok (.lload_n 3, 1) := by decide +kernel
theorem dX1_store_17 : decode cX1_store 17 = .ok (.lastore, 1) := by decide +kernel
theorem dX1_store_18 : decode cX1_store 18 = .ok (.return_, 1) := by decide +kernel
theorem dX1_valueAt_0 : decode cX1_valueAt 0 = .ok (.aload_n 0, 1) := by decide +kernel
theorem dX1_valueAt_1 : decode cX1_valueAt 1 = .ok (.iload_n 1, 1) := by decide +kernel
theorem dX1_valueAt_2 : decode cX1_valueAt 2 = .ok (.iload_n 2, 1) := by decide +kernel
theorem dX1_valueAt_3 : decode cX1_valueAt 3 = .ok (.invokevirtual 37, 3) := by decide +kernel
theorem dX1_valueAt_6 : decode cX1_valueAt 6 = .ok (.ifCond .eq 14, 3) := by decide +kernel
theorem dX1_valueAt_9 : decode cX1_valueAt 9 = .ok (.aload_n 0, 1) := by decide +kernel
theorem dX1_valueAt_10 : decode cX1_valueAt 10 = .ok (.getfield 13, 3) := by decide +kernel
theorem dX1_valueAt_13 : decode cX1_valueAt 13 = .ok (.iload_n 1, 1) := by decide +kernel
theorem dX1_valueAt_14 : decode cX1_valueAt 14 = .ok (.aaload, 1) := by decide +kernel
theorem dX1_valueAt_15 : decode cX1_valueAt 15 = .ok (.iload_n 2, 1) := by decide +kernel
theorem dX1_valueAt_16 : decode cX1_valueAt 16 = .ok (.laload, 1) := by decide +kernel
theorem dX1_valueAt_17 : decode cX1_valueAt 17 = .ok (.goto 6, 3) := by decide +kernel
theorem dX1_valueAt_20 : decode cX1_valueAt 20 = .ok (.ldc2_w 41, 3) := by decide +kernel
theorem dX1_valueAt_23 : decode cX1_valueAt 23 = .ok (.lreturn, 1) := by decide +kernel
theorem dX1_howManyThere_0 : decode cX1_howManyThere 0 = .ok (.iconst 0, 1) := by decide +kernel
theorem dX1_howManyThere_1 : decode cX1_howManyThere 1 = .ok (.istore_n 1, 1) := by decide +kernel
theorem dX1_howManyThere_2 : decode cX1_howManyThere 2 = .ok (.aload_n 0, 1) := by decide +kernel
theorem dX1_howManyThere_3 : decode cX1_howManyThere 3 = .ok (.getfield 16, 3) := by decide +kernel
theorem dX1_howManyThere_6 : decode cX1_howManyThere 6 = .ok (.astore_n 2, 1) := by decide +kernel
theorem dX1_howManyThere_7 : decode cX1_howManyThere 7 = .ok (.aload_n 2, 1) := by decide +kernel
theorem dX1_howManyThere_8 : decode cX1_howManyThere 8 = .ok (.arraylength, 1) := by decide +kernel
theorem dX1_howManyThere_9 : decode cX1_howManyThere 9 = .ok (.istore_n 3, 1) := by decide +kernel
theorem dX1_howManyThere_10 : decode cX1_howManyThere 10 = .ok (.iconst 0, 1) := by decide +kernel
theorem dX1_howManyThere_11 : decode cX1_howManyThere 11 = .ok (.istore 4, 2) := by decide +kernel
theorem dX1_howManyThere_13 : decode cX1_howManyThere 13 = .ok (.iload 4, 2) := by decide +kernel
theorem dX1_howManyThere_15 : decode cX1_howManyThere 15 = .ok (.iload_n 3, 1) := by decide +kernel
theorem dX1_howManyThere_16 : decode cX1_howManyThere 16 = .ok (.if_icmp .ge 24, 3) := by decide +kernel
theorem dX1_howManyThere_19 : decode cX1_howManyThere 19 = .ok (.aload_n 2, 1) := by decide +kernel
theorem dX1_howManyThere_20 : decode cX1_howManyThere 20 = .ok (.iload 4, 2) := by decide +kernel
theorem dX1_howManyThere_22 : decode cX1_howManyThere 22 = .ok (.iaload, 1) := by decide +kernel
theorem dX1_howManyThere_23 : decode cX1_howManyThere 23 = .ok (.istore 5, 2) := by decide +kernel
theorem dX1_howManyThere_25 : decode cX1_howManyThere 25 = .ok (.iload 5, 2) := by decide +kernel
theorem dX1_howManyThere_27 : decode cX1_howManyThere 27 = .ok (.iconst (-1), 1) := by decide +kernel
theorem dX1_howManyThere_28 : decode cX1_howManyThere 28 = .ok (.if_icmp .eq 6, 3) := by decide +kernel
theorem dX1_howManyThere_31 : decode cX1_howManyThere 31 = .ok (.iinc 1 1, 3) := by decide +kernel
theorem dX1_howManyThere_34 : decode cX1_howManyThere 34 = .ok (.iinc 4 1, 3) := by decide +kernel
theorem dX1_howManyThere_37 : decode cX1_howManyThere 37 = .ok (.goto (-24), 3) := by decide +kernel
theorem dX1_howManyThere_40 : decode cX1_howManyThere 40 = .ok (.iload_n 1, 1) := by decide +kernel
theorem dX1_howManyThere_41 : decode cX1_howManyThere 41 = .ok (.ireturn, 1) := by decide +kernel
theorem dX2_init_0 : decode cX2_init 0 = .ok (.aload_n 0, 1) := by decide +kernel
theorem dX2_init_1 : decode cX2_init 1 = .ok (.invokespecial 3, 3) := by decide +kernel
theorem dX2_init_4 : decode cX2_init 4 = .ok (.aload_n 0, 1) := by decide +kernel
theorem dX2_init_5 : decode cX2_init 5 = .ok (.aload_n 1, 1) := by decide +kernel
theorem dX2_init_6 : decode cX2_init 6 = .ok (.putfield 9, 3) := by decide +kernel
theorem dX2_init_9 : decode cX2_init 9 = .ok (.aload_n 0, 1) := by decide +kernel
theorem dX2_init_10 : decode cX2_init 10 = .ok (.sipush 429, 3) := by decide +kernel
theorem dX2_init_13 : decode cX2_init 13 = .ok (.newarray .int, 2) := by decide +kernel
theorem dX2_init_15 : decode cX2_init 15 = .ok (.putfield 17, 3) := by decide +kernel
theorem dX2_init_18 : decode cX2_init 18 = .ok (.aload_n 0, 1) := by decide +kernel
theorem dX2_init_19 : decode cX2_init 19 = .ok (.sipush 429, 3) := by decide +kernel
theorem dX2_init_22 : decode cX2_init 22 = .ok (.newarray .int, 2) := by decide +kernel
theorem dX2_init_24 : decode cX2_init 24 = .ok (.putfield 21, 3) := by decide +kernel
theorem dX2_init_27 : decode cX2_init 27 = .ok (.return_, 1) := by decide +kernel
theorem dX2_noMore_0 : decode cX2_noMore 0 = .ok (.iload_n 1, 1) := by decide +kernel
theorem dX2_noMore_1 : decode cX2_noMore 1 = .ok (.ldc 24, 2) := by decide +kernel
theorem dX2_noMore_3 : decode cX2_noMore 3 = .ok (.ior, 1) := by decide +kernel
theorem dX2_noMore_4 : decode cX2_noMore 4 = .ok (.iload_n 0, 1) := by decide +kernel
theorem dX2_noMore_5 : decode cX2_noMore 5 = .ok (.isub, 1) := by decide +kernel
theorem dX2_noMore_6 : decode cX2_noMore 6 = .ok (.ldc 24, 2) := by decide +kernel
theorem dX2_noMore_8 : decode cX2_noMore 8 = .ok (.iand, 1) := by decide +kernel
theorem dX2_noMore_9 : decode cX2_noMore 9 = .ok (.ldc 24, 2) := by decide +kernel
theorem dX2_noMore_11 : decode cX2_noMore 11 = .ok (.if_icmp .ne 7, 3) := by decide +kernel
theorem dX2_noMore_14 : decode cX2_noMore 14 = .ok (.iconst 1, 1) := by decide +kernel
theorem dX2_noMore_15 : decode cX2_noMore 15 = .ok (.goto 4, 3) := by decide +kernel
theorem dX2_noMore_18 : decode cX2_noMore 18 = .ok (.iconst 0, 1) := by decide +kernel
theorem dX2_noMore_19 : decode cX2_noMore 19 = .ok (.ireturn, 1) := by decide +kernel
theorem dX2_isBelow_0 : decode cX2_isBelow 0 = .ok (.aload_n 0, 1) := by decide +kernel
theorem dX2_isBelow_1 : decode cX2_isBelow 1 = .ok (.getfield 9, 3) := by decide +kernel
theorem dX2_isBelow_4 : decode cX2_isBelow 4 = .ok (.iload_n 1, 1) := by decide +kernel
theorem dX2_isBelow_5 : decode cX2_isBelow 5 = .ok (.invokevirtual 25, 3) := by decide +kernel
theorem dX2_isBelow_8 : decode cX2_isBelow 8 = .ok (.aload_n 0, 1) := by decide +kernel
theorem dX2_isBelow_9 : decode cX2_isBelow 9 = .ok (.getfield 9, 3) := by decide +kernel
theorem dX2_isBelow_12 : decode cX2_isBelow 12 = .ok (.iload_n 2, 1) := by decide +kernel
theorem dX2_isBelow_13 : decode cX2_isBelow 13 = .ok (.invokevirtual 25, 3) := by decide +kernel
theorem dX2_isBelow_16 : decode cX2_isBelow 16 = .ok (.invokestatic 29, 3) := by decide +kernel
theorem dX2_isBelow_19 : decode cX2_isBelow 19 = .ok (.ireturn, 1) := by decide +kernel
theorem dX2_isWithin_0 : decode cX2_isWithin 0 = .ok (.iload_n 0, 1) := by decide +kernel
theorem dX2_isWithin_1 : decode cX2_isWithin 1 = .ok (.iload_n 1, 1) := by decide +kernel
theorem dX2_isWithin_2 : decode cX2_isWithin 2 = .ok (.invokestatic 29, 3) := by decide +kernel
theorem dX2_isWithin_5 : decode cX2_isWithin 5 = .ok (.ifCond .eq 15, 3) := by decide +kernel
theorem dX2_isWithin_8 : decode cX2_isWithin 8 = .ok (.iload_n 1, 1) := by decide +kernel
theorem dX2_isWithin_9 : decode cX2_isWithin 9 = .ok (.iload_n 2, 1) := by decide +kernel
theorem dX2_isWithin_10 : decode cX2_isWithin 10 = .ok (.invokestatic 29, 3) := by decide +kernel
theorem dX2_isWithin_13 : decode cX2_isWithin 13 = .ok (.ifCond .eq 7, 3) := by decide +kernel
theorem dX2_isWithin_16 : decode cX2_isWithin 16 = .ok (.iconst 1, 1) := by decide +kernel
theorem dX2_isWithin_17 : decode cX2_isWithin 17 = .ok (.goto 4, 3) := by decide +kernel
theorem dX2_isWithin_20 : decode cX2_isWithin 20 = .ok (.iconst 0, 1) := by decide +kernel
theorem dX2_isWithin_21 : decode cX2_isWithin 21 = .ok (.ireturn, 1) := by decide +kernel
theorem dX2_meetOrJoin_0 : decode cX2_meetOrJoin 0 = .ok (.iload_n 3, 1) := by decide +kernel
theorem dX2_meetOrJoin_1 : decode cX2_meetOrJoin 1 = .ok (.ifCond .eq 12, 3) := by decide +kernel
theorem dX2_meetOrJoin_4 : decode cX2_meetOrJoin 4 = .ok (.aload_n 0, 1) := by decide +kernel
theorem dX2_meetOrJoin_5 : decode cX2_meetOrJoin 5 = .ok (.iload_n 1, 1) := by decide +kernel
theorem dX2_meetOrJoin_6 : decode cX2_meetOrJoin 6 = .ok (.iload_n 2, 1) := by decide +kernel
theorem dX2_meetOrJoin_7 : decode cX2_meetOrJoin 7 = .ok (.invokevirtual 33, 3) := by decide +kernel
theorem dX2_meetOrJoin_10 : decode cX2_meetOrJoin 10 = .ok (.goto 9, 3) := by decide +kernel
theorem dX2_meetOrJoin_13 : decode cX2_meetOrJoin 13 = .ok (.aload_n 0, 1) := by decide +kernel
theorem dX2_meetOrJoin_14 : decode cX2_meetOrJoin 14 = .ok (.iload_n 1, 1) := by decide +kernel
theorem dX2_meetOrJoin_15 : decode cX2_meetOrJoin 15 = .ok (.iload_n 2, 1) := by decide +kernel
theorem dX2_meetOrJoin_16 : decode cX2_meetOrJoin 16 = .ok (.invokevirtual 37, 3) := by decide +kernel
theorem dX2_meetOrJoin_19 : decode cX2_meetOrJoin 19 = .ok (.ireturn, 1) := by decide +kernel
theorem dX2_meetOf_0 : decode cX2_meetOf 0 = .ok (.aload_n 0, 1) := by decide +kernel
theorem dX2_meetOf_1 : decode cX2_meetOf 1 = .ok (.getfield 9, 3) := by decide +kernel
theorem dX2_meetOf_4 : decode cX2_meetOf 4 = .ok (.iload_n 1, 1) := by decide +kernel
theorem dX2_meetOf_5 : decode cX2_meetOf 5 = .ok (.invokevirtual 40, 3) := by decide +kernel
theorem dX2_meetOf_8 : decode cX2_meetOf 8 = .ok (.istore_n 3, 1) := by decide +kernel
theorem dX2_meetOf_9 : decode cX2_meetOf 9 = .ok (.iconst 0, 1) := by decide +kernel
theorem dX2_meetOf_10 : decode cX2_meetOf 10 = .ok (.istore 4, 2) := by decide +kernel
theorem dX2_meetOf_12 : decode cX2_meetOf 12 = .ok (.iconst 0, 1) := by decide +kernel
theorem dX2_meetOf_13 : decode cX2_meetOf 13 = .ok (.istore 5, 2) := by decide +kernel
theorem dX2_meetOf_15 : decode cX2_meetOf 15 = .ok (.iload 5, 2) := by decide +kernel
theorem dX2_meetOf_17 : decode cX2_meetOf 17 = .ok (.iload_n 3, 1) := by decide +kernel
theorem dX2_meetOf_18 : decode cX2_meetOf 18 = .ok (.if_icmp .ge 47, 3) := by decide +kernel
theorem dX2_meetOf_21 : decode cX2_meetOf 21 = .ok (.aload_n 0, 1) := by decide +kernel
theorem dX2_meetOf_22 : decode cX2_meetOf 22 = .ok (.getfield 9, 3) := by decide +kernel
theorem dX2_meetOf_25 : decode cX2_meetOf 25 = .ok (.iload_n 1, 1) := by decide +kernel
theorem dX2_meetOf_26 : decode cX2_meetOf 26 = .ok (.iload 5, 2) := by decide +kernel
theorem dX2_meetOf_28 : decode cX2_meetOf 28 = .ok (.invokevirtual 43, 3) := by decide +kernel
theorem dX2_meetOf_31 : decode cX2_meetOf 31 = .ok (.aload_n 0, 1) := by decide +kernel
theorem dX2_meetOf_32 : decode cX2_meetOf 32 = .ok (.getfield 9, 3) := by decide +kernel
theorem dX2_meetOf_35 : decode cX2_meetOf 35 = .ok (.iload_n 2, 1) := by decide +kernel
theorem dX2_meetOf_36 : decode cX2_meetOf 36 = .ok (.iload 5, 2) := by decide +kernel
theorem dX2_meetOf_38 : decode cX2_meetOf 38 = .ok (.invokevirtual 43, 3) := by decide +kernel
theorem dX2_meetOf_41 : decode cX2_meetOf 41 = .ok (.invokestatic 46, 3) := by decide +kernel
theorem dX2_meetOf_44 : decode cX2_meetOf 44 = .ok (.istore 6, 2) := by decide +kernel
theorem dX2_meetOf_46 : decode cX2_meetOf 46 = .ok (.iload 4, 2) := by decide +kernel
theorem dX2_meetOf_48 : decode cX2_meetOf 48 = .ok (.iload 6, 2) := by decide +kernel
theorem dX2_meetOf_50 : decode cX2_meetOf 50 = .ok (.iload_n 3, 1) := by decide +kernel
theorem dX2_meetOf_51 : decode cX2_meetOf 51 = .ok (.iload 5, 2) := by decide +kernel
theorem dX2_meetOf_53 : decode cX2_meetOf 53 = .ok (.invokestatic 51, 3) := by decide +kernel
theorem dX2_meetOf_56 : decode cX2_meetOf 56 = .ok (.ior, 1) := by decide +kernel
theorem dX2_meetOf_57 : decode cX2_meetOf 57 = .ok (.istore 4, 2) := by decide +kernel
theorem dX2_meetOf_59 : decode cX2_meetOf 59 = .ok (.iinc 5 1, 3) := by decide +kernel
theorem dX2_meetOf_62 : decode cX2_meetOf 62 = .ok (.goto (-47), 3) := by decide +kernel
theorem dX2_meetOf_65 : decode cX2_meetOf 65 = .ok (.aload_n 0, 1) := by decide +kernel
theorem dX2_meetOf_66 : decode cX2_meetOf 66 = .ok (.getfield 9, 3) := by decide +kernel
theorem dX2_meetOf_69 : decode cX2_meetOf 69 = .ok (.iload_n 3, 1) := by decide +kernel
theorem dX2_meetOf_70 : decode cX2_meetOf 70 = .ok (.iload 4, 2) := by decide +kernel
theorem dX2_meetOf_72 : decode cX2_meetOf 72 = .ok (.invokevirtual 55, 3) := by decide +kernel
theorem dX2_meetOf_75 : decode cX2_meetOf 75 = .ok (.ireturn, 1) := by decide +kernel
theorem dX2_joinOf_0 : decode cX2_joinOf 0 = .ok (.aload_n 0, 1) := by decide +kernel
theorem dX2_joinOf_1 : decode cX2_joinOf 1 = .ok (.getfield 9, 3) := by decide +kernel
theorem dX2_joinOf_4 : decode cX2_joinOf 4 = .ok (.iload_n 1, 1) := by decide +kernel
theorem dX2_joinOf_5 : decode cX2_joinOf 5 = .ok (.invokevirtual 40, 3) := by decide +kernel
theorem dX2_joinOf_8 : decode cX2_joinOf 8 = .ok (.istore_n 3, 1) := by decide +kernel
theorem dX2_joinOf_9 : decode cX2_joinOf 9 = .ok (.iconst 0, 1) := by decide +kernel
theorem dX2_joinOf_10 : decode cX2_joinOf 10 = .ok (.istore 4, 2) := by decide +kernel
theorem dX2_joinOf_12 : decode cX2_joinOf 12 = .ok (.iload_n 3, 1) := by decide +kernel
theorem dX2_joinOf_13 : decode cX2_joinOf 13 = .ok (.iconst 1, 1) := by decide +kernel
theorem dX2_joinOf_14 : decode cX2_joinOf 14 = .ok (.isub, 1) := by decide +kernel
theorem dX2_joinOf_15 : decode cX2_joinOf 15 = .ok (.istore 5, 2) := by decide +kernel
theorem dX2_joinOf_17 : decode cX2_joinOf 17 = .ok (.iload 5, 2) := by decide +kernel
theorem dX2_joinOf_19 : decode cX2_joinOf 19 = .ok (.ifCond .lt 93, 3) := by decide +kernel
theorem dX2_joinOf_22 : decode cX2_joinOf 22 = .ok (.aload_n 0, 1) := by decide +kernel
theorem dX2_joinOf_23 : decode cX2_joinOf 23 = .ok (.getfield 9, 3) := by decide +kernel
theorem dX2_joinOf_26 : decode cX2_joinOf 26 = .ok (.iload_n 1, 1) := by decide +kernel
theorem dX2_joinOf_27 : decode cX2_joinOf 27 = .ok (.iload 5, 2) := by decide +kernel
theorem dX2_joinOf_29 : decode cX2_joinOf 29 = .ok (.invokevirtual 58, 3) := by decide +kernel
theorem dX2_joinOf_32 : decode cX2_joinOf 32 = .ok (.aload_n 0, 1) := by decide +kernel
theorem dX2_joinOf_33 : decode cX2_joinOf 33 = .ok (.getfield 9, 3) := by decide +kernel
theorem dX2_joinOf_36 : decode cX2_joinOf 36 = .ok (.iload_n 2, 1) := by decide +kernel
theorem dX2_joinOf_37 : decode cX2_joinOf 37 = .ok (.iload 5, 2) := by decide +kernel
theorem dX2_joinOf_39 : decode cX2_joinOf 39 = .ok (.invokevirtual 58, 3) := by decide +kernel
theorem dX2_joinOf_42 : decode cX2_joinOf 42 = .ok (.invokestatic 61, 3) := by decide +kernel
theorem dX2_joinOf_45 : decode cX2_joinOf 45 = .ok (.istore 6, 2) := by decide +kernel
theorem dX2_joinOf_47 : decode cX2_joinOf 47 = .ok (.iload 5, 2) := by decide +kernel
theorem dX2_joinOf_49 : decode cX2_joinOf 49 = .ok (.iconst 1, 1) := by decide +kernel
theorem dX2_joinOf_50 : decode cX2_joinOf 50 = .ok (.iadd, 1) := by decide +kernel
theorem dX2_joinOf_51 : decode cX2_joinOf 51 = .ok (.istore 7, 2) := by decide +kernel
theorem dX2_joinOf_53 : decode cX2_joinOf 53 = .ok (.iload 7, 2) := by decide +kernel
theorem dX2_joinOf_55 : decode cX2_joinOf 55 = .ok (.iload_n 3, 1) := by decide +kernel
theorem dX2_joinOf_56 : decode cX2_joinOf 56 = .ok (.if_icmp .ge 34, 3) := by decide +kernel
theorem dX2_joinOf_59 : decode cX2_joinOf 59 = .ok (.iload 7, 2) := by decide +kernel
theorem dX2_joinOf_61 : decode cX2_joinOf 61 = .ok (.iload 6, 2) := by decide +kernel
theorem dX2_joinOf_63 : decode cX2_joinOf 63 = .ok (.if_icmp .gt 27, 3) := by decide +kernel
theorem dX2_joinOf_66 : decode cX2_joinOf 66 = .ok (.iload 6, 2) := by decide +kernel
theorem dX2_joinOf_68 : decode cX2_joinOf 68 = .ok (.iload 7, 2) := by decide +kernel
theorem dX2_joinOf_70 : decode cX2_joinOf 70 = .ok (.iload 4, 2) := by decide +kernel
theorem dX2_joinOf_72 : decode cX2_joinOf 72 = .ok (.iload_n 3, 1) := by decide +kernel
theorem dX2_joinOf_73 : decode cX2_joinOf 73 = .ok (.iload 7, 2) := by decide +kernel
theorem dX2_joinOf_75 : decode cX2_joinOf 75 = .ok (.invokestatic 64, 3) := by decide +kernel
theorem dX2_joinOf_78 : decode cX2_joinOf 78 = .ok (.iadd, 1) := by decide +kernel
theorem dX2_joinOf_79 : decode cX2_joinOf 79 = .ok (.invokestatic 61, 3) := by decide +kernel
theorem dX2_joinOf_82 : decode cX2_joinOf 82 = .ok (.istore 6, 2) := by decide +kernel
theorem dX2_joinOf_84 : decode cX2_joinOf 84 = .ok (.iinc 7 1, 3) := by decide +kernel
theorem dX2_joinOf_87 : decode cX2_joinOf 87 = .ok (.goto (-34), 3) := by decide +kernel
theorem dX2_joinOf_90 : decode cX2_joinOf 90 = .ok (.iload 4, 2) := by decide +kernel
theorem dX2_joinOf_92 : decode cX2_joinOf 92 = .ok (.iload 6, 2) := by decide +kernel
theorem dX2_joinOf_94 : decode cX2_joinOf 94 = .ok (.iload 5, 2) := by decide +kernel
theorem dX2_joinOf_96 : decode cX2_joinOf 96 = .ok (.isub, 1) := by decide +kernel
theorem dX2_joinOf_97 : decode cX2_joinOf 97 = .ok (.iload_n 3, 1) := by decide +kernel
theorem dX2_joinOf_98 : decode cX2_joinOf 98 = .ok (.iload 5, 2) := by decide +kernel
theorem dX2_joinOf_100 : decode cX2_joinOf 100 = .ok (.invokestatic 51, 3) := by decide +kernel
theorem dX2_joinOf_103 : decode cX2_joinOf 103 = .ok (.ior, 1) := by decide +kernel
theorem dX2_joinOf_104 : decode cX2_joinOf 104 = .ok (.istore 4, 2) := by decide +kernel
theorem dX2_joinOf_106 : decode cX2_joinOf 106 = .ok (.iinc 5 (-1), 3) := by decide +kernel
theorem dX2_joinOf_109 : decode cX2_joinOf 109 = .ok (.goto (-92), 3) := by decide +kernel
theorem dX2_joinOf_112 : decode cX2_joinOf 112 = .ok (.aload_n 0, 1) := by decide +kernel
theorem dX2_joinOf_113 : decode cX2_joinOf 113 = .ok (.getfield 9, 3) := by decide +kernel
theorem dX2_joinOf_116 : decode cX2_joinOf 116 = .ok (.iload_n 3, 1) := by decide +kernel
theorem dX2_joinOf_117 : decode cX2_joinOf 117 = .ok (.iload 4, 2) := by decide +kernel
theorem dX2_joinOf_119 : decode cX2_joinOf 119 = .ok (.invokevirtual 55, 3) := by decide +kernel
theorem dX2_joinOf_122 : decode cX2_joinOf 122 = .ok (.ireturn, 1) := by decide +kernel
theorem dX2_howManyBetween_0 : decode cX2_howManyBetween 0 = .ok (.aload_n 0, 1) := by decide +kernel
theorem dX2_howManyBetween_1 : decode cX2_howManyBetween 1 = .ok (.getfield 9, 3) := by decide +kernel
theorem dX2_howManyBetween_4 : decode cX2_howManyBetween 4 = .ok (.iload_n 1, 1) := by decide +kernel
theorem dX2_howManyBetween_5 : decode cX2_howManyBetween 5 = .ok (.invokevirtual 25, 3) := by decide +kernel
theorem dX2_howManyBetween_8 : decode cX2_howManyBetween 8 = .ok (.istore_n 3, 1) := by decide +kernel
theorem dX2_howManyBetween_9 : decode cX2_howManyBetween 9 = .ok (.aload_n 0, 1) := by decide +kernel
theorem dX2_howManyBetween_10 : decode cX2_howManyBetween 10 = .ok (.getfield 9, 3) := by decide +kernel
theorem dX2_howManyBetween_13 : decode cX2_howManyBetween 13 = .ok (.iload_n 2, 1) := by decide +kernel
theorem dX2_howManyBetween_14 : decode cX2_howManyBetween 14 = .ok (.invokevirtual 25, 3) := by decide +kernel
theorem dX2_howManyBetween_17 : decode cX2_howManyBetween 17 = .ok (.istore 4, 2) := by decide +kernel
theorem dX2_howManyBetween_19 : decode cX2_howManyBetween 19 = .ok (.iconst 0, 1) := by decide +kernel
theorem dX2_howManyBetween_20 : decode cX2_howManyBetween 20 = .ok (.istore 5, 2) := by decide +kernel
theorem dX2_howManyBetween_22 : decode cX2_howManyBetween 22 = .ok (.iload_n 1, 1) := by decide +kernel
theorem dX2_howManyBetween_23 : decode cX2_howManyBetween 23 = .ok (.istore 6, 2) := by decide +kernel
theorem dX2_howManyBetween_25 : decode cX2_howManyBetween 25 = .ok (.iload 6, 2) := by decide +kernel
theorem dX2_howManyBetween_27 : decode cX2_howManyBetween 27 = .ok (.iload_n 2, 1) := by decide +kernel
theorem dX2_howManyBetween_28 : decode cX2_howManyBetween 28 = .ok (.if_icmp .gt 30, 3) := by decide +kernel
theorem dX2_howManyBetween_31 : decode cX2_howManyBetween 31 = .ok (.iload_n 3, 1) := by decide +kernel
theorem dX2_howManyBetween_32 : decode cX2_howManyBetween 32 = .ok (.aload_n 0, 1) := by decide +kernel
theorem dX2_howManyBetween_33 : decode cX2_howManyBetween 33 = .ok (.getfield 9, 3) := by decide +kernel
theorem dX2_howManyBetween_36 : decode cX2_howManyBetween 36 = .ok (.iload 6, 2) := by decide +kernel
theorem dX2_howManyBetween_38 : decode cX2_howManyBetween 38 = .ok (.invokevirtual 25, 3) := by decide +kernel
theorem dX2_howManyBetween_41 : decode cX2_howManyBetween 41 = .ok (.iload 4, 2) := by decide +kernel
theorem dX2_howManyBetween_43 : decode cX2_howManyBetween 43 = .ok (.invokestatic 67, 3) := by decide +kernel
theorem dX2_howManyBetween_46 : decode cX2_howManyBetween 46 = .ok (.ifCond .eq 6, 3) := by decide +kernel
theorem dX2_howManyBetween_49 : decode cX2_howManyBetween 49 = .ok (.iinc 5 1, 3) := by decide +kernel
theorem dX2_howManyBetween_52 : decode cX2_howManyBetween 52 = .ok (.iinc 6 1, 3) := by decide +kernel
theorem dX2_howManyBetween_55 : decode cX2_howManyBetween 55 = .ok (.goto (-30), 3) := by decide +kernel
theorem dX2_howManyBetween_58 : decode cX2_howManyBetween 58 = .ok (.iload 5, 2) := by decide +kernel
theorem dX2_howManyBetween_60 : decode cX2_howManyBetween 60 = .ok (.ireturn, 1) := by decide +kernel
theorem dX2_nthBetween_0 : decode cX2_nthBetween 0 = .ok (.aload_n 0, 1) := by decide +kernel
theorem dX2_nthBetween_1 : decode cX2_nthBetween 1 = .ok (.getfield 9, 3) := by decide +kernel
theorem dX2_nthBetween_4 : decode cX2_nthBetween 4 = .ok (.iload_n 1, 1) := by decide +kernel
theorem dX2_nthBetween_5 : decode cX2_nthBetween 5 = .ok (.invokevirtual 25, 3) := by decide +kernel
theorem dX2_nthBetween_8 : decode cX2_nthBetween 8 = .ok (.istore 4, 2) := by decide +kernel
theorem dX2_nthBetween_10 : decode cX2_nthBetween 10 = .ok (.aload_n 0, 1) := by decide +kernel
theorem dX2_nthBetween_11 : decode cX2_nthBetween 11 = .ok (.getfield 9, 3) := by decide +kernel
theorem dX2_nthBetween_14 : decode cX2_nthBetween 14 = .ok (.iload_n 2, 1) := by decide +kernel
theorem dX2_nthBetween_15 : decode cX2_nthBetween 15 = .ok (.invokevirtual 25, 3) := by decide +kernel
theorem dX2_nthBetween_18 : decode cX2_nthBetween 18 = .ok (.istore 5, 2) := by decide +kernel
theorem dX2_nthBetween_20 : decode cX2_nthBetween 20 = .ok (.iconst 0, 1) := by decide +kernel
theorem dX2_nthBetween_21 : decode cX2_nthBetween 21 = .ok (.istore 6, 2) := by decide +kernel
theorem dX2_nthBetween_23 : decode cX2_nthBetween 23 = .ok (.iload_n 1, 1) := by decide +kernel
theorem dX2_nthBetween_24 : decode cX2_nthBetween 24 = .ok (.istore 7, 2) := by decide +kernel
theorem dX2_nthBetween_26 : decode cX2_nthBetween 26 = .ok (.iload 7, 2) := by decide +kernel
theorem dX2_nthBetween_28 : decode cX2_nthBetween 28 = .ok (.iload_n 2, 1) := by decide +kernel
theorem dX2_nthBetween_29 : decode cX2_nthBetween 29 = .ok (.if_icmp .gt 40, 3) := by decide +kernel
theorem dX2_nthBetween_32 : decode cX2_nthBetween 32 = .ok (.iload 4, 2) := by decide +kernel
theorem dX2_nthBetween_34 : decode cX2_nthBetween 34 = .ok (.aload_n 0, 1) := by decide +kernel
theorem dX2_nthBetween_35 : decode cX2_nthBetween 35 = .ok (.getfield 9, 3) := by decide +kernel
theorem dX2_nthBetween_38 : decode cX2_nthBetween 38 = .ok (.iload 7, 2) := by decide +kernel
theorem dX2_nthBetween_40 : decode cX2_nthBetween 40 = .ok (.invokevirtual 25, 3) := by decide +kernel
theorem dX2_nthBetween_43 : decode cX2_nthBetween 43 = .ok (.iload 5, 2) := by decide +kernel
theorem dX2_nthBetween_45 : decode cX2_nthBetween 45 = .ok (.invokestatic 67, 3) := by decide +kernel
theorem dX2_nthBetween_48 : decode cX2_nthBetween 48 = .ok (.ifCond .eq 15, 3) := by decide +kernel
theorem dX2_nthBetween_51 : decode cX2_nthBetween 51 = .ok (.iload 6, 2) := by decide +kernel
theorem dX2_nthBetween_53 : decode cX2_nthBetween 53 = .ok (.iload_n 3, 1) := by decide +kernel
theorem dX2_nthBetween_54 : decode cX2_nthBetween 54 = .ok (.if_icmp .ne 6, 3) := by decide +kernel
theorem dX2_nthBetween_57 : decode cX2_nthBetween 57 = .ok (.iload 7, 2) := by decide +kernel
theorem dX2_nthBetween_59 : decode cX2_nthBetween 59 = .ok (.ireturn, 1) := by decide +kernel
theorem dX2_nthBetween_60 : decode cX2_nthBetween 60 = .ok (.iinc 6 1, 3) := by decide +kernel
theorem dX2_nthBetween_63 : decode cX2_nthBetween 63 = .ok (.iinc 7 1, 3) := by decide +kernel
theorem dX2_nthBetween_66 : decode cX2_nthBetween 66 = .ok (.goto (-40), 3) := by decide +kernel
theorem dX2_nthBetween_69 : decode cX2_nthBetween 69 = .ok (.iconst 0, 1) := by decide +kernel
theorem dX2_nthBetween_70 : decode cX2_nthBetween 70 = .ok (.ireturn, 1) := by decide +kernel
theorem dX2_markOf_0 : decode cX2_markOf 0 = .ok (.aload_n 0, 1) := by decide +kernel
theorem dX2_markOf_1 : decode cX2_markOf 1 = .ok (.getfield 9, 3) := by decide +kernel
theorem dX2_markOf_4 : decode cX2_markOf 4 = .ok (.iload_n 1, 1) := by decide +kernel
theorem dX2_markOf_5 : decode cX2_markOf 5 = .ok (.invokevirtual 25, 3) := by decide +kernel
theorem dX2_markOf_8 : decode cX2_markOf 8 = .ok (.istore_n 3, 1) := by decide +kernel
theorem dX2_markOf_9 : decode cX2_markOf 9 = .ok (.aload_n 0, 1) := by decide +kernel
theorem dX2_markOf_10 : decode cX2_markOf 10 = .ok (.getfield 9, 3) := by decide +kernel
theorem dX2_markOf_13 : decode cX2_markOf 13 = .ok (.iload_n 2, 1) := by decide +kernel
theorem dX2_markOf_14 : decode cX2_markOf 14 = .ok (.invokevirtual 25, 3) := by decide +kernel
theorem dX2_markOf_17 : decode cX2_markOf 17 = .ok (.istore 4, 2) := by decide +kernel
theorem dX2_markOf_19 : decode cX2_markOf 19 = .ok (.iconst 0, 1) := by decide +kernel
theorem dX2_markOf_20 : decode cX2_markOf 20 = .ok (.istore 5, 2) := by decide +kernel
theorem dX2_markOf_22 : decode cX2_markOf 22 = .ok (.iconst 0, 1) := by decide +kernel
theorem dX2_markOf_23 : decode cX2_markOf 23 = .ok (.istore 6, 2) := by decide +kernel
theorem dX2_markOf_25 : decode cX2_markOf 25 = .ok (.iload_n 1, 1) := by decide +kernel
theorem dX2_markOf_26 : decode cX2_markOf 26 = .ok (.istore 7, 2) := by decide +kernel
theorem dX2_markOf_28 : decode cX2_markOf 28 = .ok (.iload 7, 2) := by decide +kernel
theorem dX2_markOf_30 : decode cX2_markOf 30 = .ok (.iload_n 2, 1) := by decide +kernel
theorem dX2_markOf_31 : decode cX2_markOf 31 = .ok (.if_icmp .gt 89, 3) := by decide +kernel
theorem dX2_markOf_34 : decode cX2_markOf 34 = .ok (.aload_n 0, 1) := by decide +kernel
theorem dX2_markOf_35 : decode cX2_markOf 35 = .ok (.getfield 9, 3) := by decide +kernel
theorem dX2_markOf_38 : decode cX2_markOf 38 = .ok (.iload 7, 2) := by decide +kernel
theorem dX2_markOf_40 : decode cX2_markOf 40 = .ok (.invokevirtual 25, 3) := by decide +kernel
theorem dX2_markOf_43 : decode cX2_markOf 43 = .ok (.istore 8, 2) := by decide +kernel
theorem dX2_markOf_45 : decode cX2_markOf 45 = .ok (.iload_n 3, 1) := by decide +kernel
theorem dX2_markOf_46 : decode cX2_markOf 46 = .ok (.iload 8, 2) := by decide +kernel
theorem dX2_markOf_48 : decode cX2_markOf 48 = .ok (.iload 4, 2) := by decide +kernel
theorem dX2_markOf_50 : decode cX2_markOf 50 = .ok (.invokestatic 67, 3) := by decide +kernel
theorem dX2_markOf_53 : decode cX2_markOf 53 = .ok (.ifCond .ne 6, 3) := by decide +kernel
theorem dX2_markOf_56 : decode cX2_markOf 56 = .ok (.goto 58, 3) := by decide +kernel
theorem dX2_markOf_59 : decode cX2_markOf 59 = .ok (.iload 7, 2) := by decide +kernel
theorem dX2_markOf_61 : decode cX2_markOf 61 = .ok (.iload_n 1, 1) := by decide +kernel
theorem dX2_markOf_62 : decode cX2_markOf 62 = .ok (.if_icmp .ne 7, 3) := by decide +kernel
theorem dX2_markOf_65 : decode cX2_markOf 65 = .ok (.iconst 1, 1) := by decide +kernel
theorem dX2_markOf_66 : decode cX2_markOf 66 = .ok (.goto 12, 3) := by decide +kernel
theorem dX2_markOf_69 : decode cX2_markOf 69 = .ok (.aload_n 0, 1) := by decide +kernel
theorem dX2_markOf_70 : decode cX2_markOf 70 = .ok (.iload 8, 2) := by decide +kernel
theorem dX2_markOf_72 : decode cX2_markOf 72 = .ok (.iload 5, 2) := by decide +kernel
theorem dX2_markOf_74 : decode cX2_markOf 74 = .ok (.invokevirtual 71, 3) := by decide +kernel
theorem dX2_markOf_77 : decode cX2_markOf 77 = .ok (.ineg, 1) := by decide +kernel
theorem dX2_markOf_78 : decode cX2_markOf 78 = .ok (.istore 6, 2) := by decide +kernel
theorem dX2_markOf_80 : decode cX2_markOf 80 = .ok (.iload 6, 2) := by decide +kernel
theorem dX2_markOf_82 : decode cX2_markOf 82 = .ok (.ifCond .eq 32, 3) := by decide +kernel
theorem dX2_markOf_85 : decode cX2_markOf 85 = .ok (.iload 5, 2) := by decide +kernel
theorem dX2_markOf_87 : decode cX2_markOf 87 = .ok (.sipush 429, 3) := by decide +kernel
theorem dX2_markOf_90 : decode cX2_markOf 90 = .ok (.if_icmp .ge 24, 3) := by decide +kernel
theorem dX2_markOf_93 : decode cX2_markOf 93 = .ok (.aload_n 0, 1) := by decide +kernel
theorem dX2_markOf_94 : decode cX2_markOf 94 = .ok (.getfield 17, 3) := by decide +kernel
theorem dX2_markOf_97 : decode cX2_markOf 97 = .ok (.iload 5, 2) := by decide +kernel
theorem dX2_markOf_99 : decode cX2_markOf 99 = .ok (.iload 8, 2) := by decide +kernel
theorem dX2_markOf_101 : decode cX2_markOf 101 = .ok (.iastore, 1) := by decide +kernel
theorem dX2_markOf_102 : decode cX2_markOf 102 = .ok (.aload_n 0, 1) := by decide +kernel
theorem dX2_markOf_103 : decode cX2_markOf 103 = .ok (.getfield 21, 3) := by decide +kernel
theorem dX2_markOf_106 : decode cX2_markOf 106 = .ok (.iload 5, 2) := by decide +kernel
theorem dX2_markOf_108 : decode cX2_markOf 108 = .ok (.iload 6, 2) := by decide +kernel
theorem dX2_markOf_110 : decode cX2_markOf 110 = .ok (.iastore, 1) := by decide +kernel
theorem dX2_markOf_111 : decode cX2_markOf 111 = .ok (.iinc 5 1, 3) := by decide +kernel
theorem dX2_markOf_114 : decode cX2_markOf 114 = .ok (.iinc 7 1, 3) := by decide +kernel
theorem dX2_markOf_117 : decode cX2_markOf 117 = .ok (.goto (-89), 3) := by decide +kernel
theorem dX2_markOf_120 : decode cX2_markOf 120 = .ok (.iload 6, 2) := by decide +kernel
theorem dX2_markOf_122 : decode cX2_markOf 122 = .ok (.ireturn, 1) := by decide +kernel
theorem dX2_sumBelow_0 : decode cX2_sumBelow 0 = .ok (.iconst 0, 1) := by decide +kernel
theorem dX2_sumBelow_1 : decode cX2_sumBelow 1 = .ok (.istore_n 3, 1) := by decide +kernel
theorem dX2_sumBelow_2 : decode cX2_sumBelow 2 = .ok (.iconst 0, 1) := by decide +kernel
theorem dX2_sumBelow_3 : decode cX2_sumBelow 3 = .ok (.istore 4, 2) := by decide +kernel
theorem dX2_sumBelow_5 : decode cX2_sumBelow 5 = .ok (.iload 4, 2) := by decide +kernel
theorem dX2_sumBelow_7 : decode cX2_sumBelow 7 = .ok (.iload_n 2, 1) := by decide +kernel
theorem dX2_sumBelow_8 : decode cX2_sumBelow 8 = .ok (.if_icmp .ge 41, 3) := by decide +kernel
theorem dX2_sumBelow_11 : decode cX2_sumBelow 11 = .ok (.iload 4, 2) := by decide +kernel
theorem dX2_sumBelow_13 : decode cX2_sumBelow 13 = .ok (.sipush 429, 3) := by decide +kernel
theorem dX2_sumBelow_16 : decode cX2_sumBelow 16 = .ok (.if_icmp .ge 33, 3) := by decide +kernel
theorem dX2_sumBelow_19 : decode cX2_sumBelow 19 = .ok (.aload_n 0, 1) := by decide +kernel
theorem dX2_sumBelow_20 : decode cX2_sumBelow 20 = .ok (.getfield 17, 3) := by decide +kernel
theorem dX2_sumBelow_23 : decode cX2_sumBelow 23 = .ok (.iload 4, 2) := by decide +kernel
theorem dX2_sumBelow_25 : decode cX2_sumBelow 25 = .ok (.iaload, 1) := by decide +kernel
theorem dX2_sumBelow_26 : decode cX2_sumBelow 26 = .ok (.iload_n 1, 1) := by decide +kernel
theorem dX2_sumBelow_27 : decode cX2_sumBelow 27 = .ok (.invokestatic 29, 3) := by decide +kernel
theorem dX2_sumBelow_30 : decode cX2_sumBelow 30 = .ok (.ifCond .eq 13, 3) := by decide +kernel
theorem dX2_sumBelow_33 : decode cX2_sumBelow 33 = .ok (.iload_n 3, 1) := by decide +kernel
theorem dX2_sumBelow_34 : decode cX2_sumBelow 34 = .ok (.aload_n 0, 1) := by decide +kernel
theorem dX2_sumBelow_35 : decode cX2_sumBelow 35 = .ok (.getfield 21, 3) := by decide +kernel
theorem dX2_sumBelow_38 : decode cX2_sumBelow 38 = .ok (.iload 4, 2) := by decide +kernel
theorem dX2_sumBelow_40 : decode cX2_sumBelow 40 = .ok (.iaload, 1) := by decide +kernel
theorem dX2_sumBelow_41 : decode cX2_sumBelow 41 = .ok (.iadd, 1) := by decide +kernel
theorem dX2_sumBelow_42 : decode cX2_sumBelow 42 = .ok (.istore_n 3, 1) := by decide +kernel
theorem dX2_sumBelow_43 : decode cX2_sumBelow 43 = .ok (.iinc 4 1, 3) := by decide +kernel
theorem dX2_sumBelow_46 : decode cX2_sumBelow 46 = .ok (.goto (-41), 3) := by decide +kernel
theorem dX2_sumBelow_49 : decode cX2_sumBelow 49 = .ok (.iload_n 3, 1) := by decide +kernel
theorem dX2_sumBelow_50 : decode cX2_sumBelow 50 = .ok (.ireturn, 1) := by decide +kernel
theorem dX2_howManyPairs_0 : decode cX2_howManyPairs 0 = .ok (.aload_n 0, 1) := by decide +kernel
theorem dX2_howManyPairs_1 : decode cX2_howManyPairs 1 = .ok (.getfield 9, 3) := by decide +kernel
theorem dX2_howManyPairs_4 : decode cX2_howManyPairs 4 = .ok (.iload_n 1, 1) := by decide +kernel
theorem dX2_howManyPairs_5 : decode cX2_howManyPairs 5 = .ok (.invokevirtual 74, 3) := by decide +kernel
theorem dX2_howManyPairs_8 : decode cX2_howManyPairs 8 = .ok (.istore_n 2, 1) := by decide +kernel
theorem dX2_howManyPairs_9 : decode cX2_howManyPairs 9 = .ok (.iconst 0, 1) := by decide +kernel
theorem dX2_howManyPairs_10 : decode cX2_howManyPairs 10 = .ok (.istore_n 3, 1) := by decide +kernel
theorem dX2_howManyPairs_11 : decode cX2_howManyPairs 11 = .ok (.aload_n 0, 1) := by decide +kernel
theorem dX2_howManyPairs_12 : decode cX2_howManyPairs 12 = .ok (.getfield 9, 3) := by decide +kernel
theorem dX2_howManyPairs_15 : decode cX2_howManyPairs 15 = .ok (.iload_n 1, 1) := by decide +kernel
theorem dX2_howManyPairs_16 : decode cX2_howManyPairs 16 = .ok (.invokevirtual 77, 3) := by decide +kernel
theorem dX2_howManyPairs_19 : decode cX2_howManyPairs 19 = .ok (.istore 4, 2) := by decide +kernel
theorem dX2_howManyPairs_21 : decode cX2_howManyPairs 21 = .ok (.iload 4, 2) := by decide +kernel
theorem dX2_howManyPairs_23 : decode cX2_howManyPairs 23 = .ok (.iload_n 2, 1) := by decide +kernel
theorem dX2_howManyPairs_24 : decode cX2_howManyPairs 24 = .ok (.if_icmp .gt 56, 3) := by decide +kernel
theorem dX2_howManyPairs_27 : decode cX2_howManyPairs 27 = .ok (.aload_n 0, 1) := by decide +kernel
theorem dX2_howManyPairs_28 : decode cX2_howManyPairs 28 = .ok (.getfield 9, 3) := by decide +kernel
theorem dX2_howManyPairs_31 : decode cX2_howManyPairs 31 = .ok (.iload 4, 2) := by decide +kernel
theorem dX2_howManyPairs_33 : decode cX2_howManyPairs 33 = .ok (.invokevirtual 25, 3) := by decide +kernel
theorem dX2_howManyPairs_36 : decode cX2_howManyPairs 36 = .ok (.istore 5, 2) := by decide +kernel
theorem dX2_howManyPairs_38 : decode cX2_howManyPairs 38 = .ok (.iload 4, 2) := by decide +kernel
theorem dX2_howManyPairs_40 : decode cX2_howManyPairs 40 = .ok (.istore 6, 2) := by decide +kernel
theorem dX2_howManyPairs_42 : decode cX2_howManyPairs 42 = .ok (.iload 6, 2) := by decide +kernel
theorem dX2_howManyPairs_44 : decode cX2_howManyPairs 44 = .ok (.iload_n 2, 1) := by decide +kernel
theorem dX2_howManyPairs_45 : decode cX2_howManyPairs 45 = .ok (.if_icmp .gt 29, 3) := by decide +kernel
theorem dX2_howManyPairs_48 : decode cX2_howManyPairs 48 = .ok (.iload 5, 2) := by decide +kernel
theorem dX2_howManyPairs_50 : decode cX2_howManyPairs 50 = .ok (.aload_n 0, 1) := by decide +kernel
theorem dX2_howManyPairs_51 : decode cX2_howManyPairs 51 = .ok (.getfield 9, 3) := by decide +kernel
theorem dX2_howManyPairs_54 : decode cX2_howManyPairs 54 = .ok (.iload 6, 2) := by decide +kernel
theorem dX2_howManyPairs_56 : decode cX2_howManyPairs 56 = .ok (.invokevirtual 25, 3) := by decide +kernel
theorem dX2_howManyPairs_59 : decode cX2_howManyPairs 59 = .ok (.invokestatic 29, 3) := by decide +kernel
theorem dX2_howManyPairs_62 : decode cX2_howManyPairs 62 = .ok (.ifCond .eq 6, 3) := by decide +kernel
theorem dX2_howManyPairs_65 : decode cX2_howManyPairs 65 = .ok (.iinc 3 1, 3) := by decide +kernel
theorem dX2_howManyPairs_68 : decode cX2_howManyPairs 68 = .ok (.iinc 6 1, 3) := by decide +kernel
theorem dX2_howManyPairs_71 : decode cX2_howManyPairs 71 = .ok (.goto (-29), 3) := by decide +kernel
theorem dX2_howManyPairs_74 : decode cX2_howManyPairs 74 = .ok (.iinc 4 1, 3) := by decide +kernel
theorem dX2_howManyPairs_77 : decode cX2_howManyPairs 77 = .ok (.goto (-56), 3) := by decide +kernel
theorem dX2_howManyPairs_80 : decode cX2_howManyPairs 80 = .ok (.iload_n 3, 1) := by decide +kernel
theorem dX2_howManyPairs_81 : decode cX2_howManyPairs 81 = .ok (.ireturn, 1) := by decide +kernel
theorem dX3_init_0 : decode cX3_init 0 = .ok (.aload_n 0, 1) := by decide +kernel
theorem dX3_init_1 : decode cX3_init 1 = .ok (.invokespecial 3, 3) := by decide +kernel
theorem dX3_init_4 : decode cX3_init 4 = .ok (.aload_n 0, 1) := by decide +kernel
theorem dX3_init_5 : decode cX3_init 5 = .ok (.bipush 10, 2) := by decide +kernel
theorem dX3_init_7 : decode cX3_init 7 = .ok (.newarray .int, 2) := by decide +kernel
theorem dX3_init_9 : decode cX3_init 9 = .ok (.putfield 11, 3) := by decide +kernel
theorem dX3_init_12 : decode cX3_init 12 = .ok (.return_, 1) := by decide +kernel
theorem dX3_add_0 : decode cX3_add 0 = .ok (.aload_n 0, 1) := by decide +kernel
theorem dX3_add_1 : decode cX3_add 1 = .ok (.getfield 15, 3) := by decide +kernel
theorem dX3_add_4 : decode cX3_add 4 = .ok (.bipush 10, 2) := by decide +kernel
theorem dX3_add_6 : decode cX3_add 6 = .ok (.if_icmp .lt 24, 3) := by decide +kernel
theorem dX3_add_9 : decode cX3_add 9 = .ok (.aload_n 0, 1) := by decide +kernel
theorem dX3_add_10 : decode cX3_add 10 = .ok (.getfield 11, 3) := by decide +kernel
theorem dX3_add_13 : decode cX3_add 13 = .ok (.iconst 1, 1) := by decide +kernel
theorem dX3_add_14 : decode cX3_add 14 = .ok (.aload_n 0, 1) := by decide +kernel
theorem dX3_add_15 : decode cX3_add 15 = .ok (.getfield 11, 3) := by decide +kernel
theorem dX3_add_18 : decode cX3_add 18 = .ok (.iconst 0, 1) := by decide +kernel
theorem dX3_add_19 : decode cX3_add 19 = .ok (.bipush 9, 2) := by decide +kernel
theorem dX3_add_21 : decode cX3_add 21 = .ok (.invokestatic 19, 3) := by decide +kernel
theorem dX3_add_24 : decode cX3_add 24 = .ok (.aload_n 0, 1) := by decide +kernel
theorem dX3_add_25 : decode cX3_add 25 = .ok (.bipush 9, 2) := by decide +kernel
theorem dX3_add_27 : decode cX3_add 27 = .ok (.putfield 15, 3) := by decide +kernel
theorem dX3_add_30 : decode cX3_add 30 = .ok (.aload_n 0, 1) := by decide +kernel
theorem dX3_add_31 : decode cX3_add 31 = .ok (.getfield 11, 3) := by decide +kernel
theorem dX3_add_34 : decode cX3_add 34 = .ok (.aload_n 0, 1) := by decide +kernel
theorem dX3_add_35 : decode cX3_add 35 = .ok (.getfield 15, 3) := by decide +kernel
theorem dX3_add_38 : decode cX3_add 38 = .ok (.iload_n 1, 1) := by decide +kernel
theorem dX3_add_39 : decode cX3_add 39 = .ok (.iastore, 1) := by decide +kernel
theorem dX3_add_40 : decode cX3_add 40 = .ok (.aload_n 0, 1) := by decide +kernel
theorem dX3_add_41 : decode cX3_add 41 = .ok (.dup, 1) := by decide +kernel
theorem dX3_add_42 : decode cX3_add 42 = .ok (.getfield 15, 3) := by decide +kernel
theorem dX3_add_45 : decode cX3_add 45 = .ok (.iconst 1, 1) := by decide +kernel
theorem dX3_add_46 : decode cX3_add 46 = .ok (.iadd, 1) := by decide +kernel
theorem dX3_add_47 : decode cX3_add 47 = .ok (.putfield 15, 3) := by decide +kernel
theorem dX3_add_50 : decode cX3_add 50 = .ok (.return_, 1) := by decide +kernel
theorem dX3_takeLatest_0 : decode cX3_takeLatest 0 = .ok (.aload_n 0, 1) := by decide +kernel
theorem dX3_takeLatest_1 : decode cX3_takeLatest 1 = .ok (.getfield 15, 3) := by decide +kernel
theorem dX3_takeLatest_4 : decode cX3_takeLatest 4 = .ok (.ifCond .gt 5, 3) := by decide +kernel
theorem dX3_takeLatest_7 : decode cX3_takeLatest 7 = .ok (.iconst 0, 1) := by decide +kernel
theorem dX3_takeLatest_8 : decode cX3_takeLatest 8 = .ok (.ireturn, 1) := by decide +kernel
theorem dX3_takeLatest_9 : decode cX3_takeLatest 9 = .ok (.aload_n 0, 1) := by decide +kernel
theorem dX3_takeLatest_10 : decode cX3_takeLatest 10 = .ok (.dup, 1) := by decide +kernel
theorem dX3_takeLatest_11 : decode cX3_takeLatest 11 = .ok (.getfield 15, 3) := by decide +kernel
theorem dX3_takeLatest_14 : decode cX3_takeLatest 14 = .ok (.iconst 1, 1) := by decide +kernel
theorem dX3_takeLatest_15 : decode cX3_takeLatest 15 = .ok (.isub, 1) := by decide +kernel
theorem dX3_takeLatest_16 : decode cX3_takeLatest 16 = .ok (.putfield 15, 3) := by decide +kernel
theorem dX3_takeLatest_19 : decode cX3_takeLatest 19 = .ok (.aload_n 0, 1) := by decide +kernel
theorem dX3_takeLatest_20 : decode cX3_takeLatest 20 = .ok (.getfield 11, 3) := by decide +kernel
theorem dX3_takeLatest_23 : decode cX3_takeLatest 23 = .ok (.aload_n 0, 1) := by decide +kernel
theorem dX3_takeLatest_24 : decode cX3_takeLatest 24 = .ok (.getfield 15, 3) := by decide +kernel
theorem dX3_takeLatest_27 : decode cX3_takeLatest 27 = .ok (.iaload, 1) := by decide +kernel
theorem dX3_takeLatest_28 : decode cX3_takeLatest 28 = .ok (.ireturn, 1) := by decide +kernel
theorem dX3_clear_0 : decode cX3_clear 0 = .ok (.aload_n 0, 1) := by decide +kernel
theorem dX3_clear_1 : decode cX3_clear 1 = .ok (.iconst 0, 1) := by decide +kernel
theorem dX3_clear_2 : decode cX3_clear 2 = .ok (.putfield 15, 3) := by decide +kernel
theorem dX3_clear_5 : decode cX3_clear 5 = .ok (.return_, 1) := by decide +kernel
theorem dX3_held_0 : decode cX3_held 0 = .ok (.aload_n 0, 1) := by decide +kernel
theorem dX3_held_1 : decode cX3_held 1 = .ok (.getfield 15, 3) := by decide +kernel
theorem dX3_held_4 : decode cX3_held 4 = .ok (.ireturn, 1) := by decide +kernel
def yJ0_bitCount : MethodName := ⟨"java/lang/Integer", "bitCount", "(I)I"⟩
def yJ_fillI : MethodName := ⟨"java/util/Arrays", "fill", "([II)V"⟩
def yJ_fillL : MethodName := ⟨"java/util/Arrays", "fill", "([JJ)V"⟩
theorem dJ0_bitCount_0 : decode prog_10_method_49_code 0 = .ok (.iload_n 0, 1) := by decide +kernel
theorem dJ0_bitCount_1 : decode prog_10_method_49_code 1 = .ok (.iload_n 0, 1) := by decide +kernel
theorem dJ0_bitCount_2 : decode prog_10_method_49_code 2 = .ok (.iconst 1, 1) := by decide +kernel
theorem dJ0_bitCount_3 : decode prog_10_method_49_code 3 = .ok (.iushr, 1) := by decide +kernel
theorem dJ0_bitCount_4 : decode prog_10_method_49_code 4 = .ok (.ldc_w 265, 3) := by decide +kernel
theorem dJ0_bitCount_7 : decode prog_10_method_49_code 7 = .ok (.iand, 1) := by decide +kernel
theorem dJ0_bitCount_8 : decode prog_10_method_49_code 8 = .ok (.isub, 1) := by decide +kernel
theorem dJ0_bitCount_9 : decode prog_10_method_49_code 9 = .ok (.istore_n 0, 1) := by decide +kernel
theorem dJ0_bitCount_10 : decode prog_10_method_49_code 10 = .ok (.iload_n 0, 1) := by decide +kernel
theorem dJ0_bitCount_11 : decode prog_10_method_49_code 11 = .ok (.ldc_w 266, 3) := by decide +kernel
theorem dJ0_bitCount_14 : decode prog_10_method_49_code 14 = .ok (.iand, 1) := by decide +kernel
theorem dJ0_bitCount_15 : decode prog_10_method_49_code 15 = .ok (.iload_n 0, 1) := by decide +kernel
theorem dJ0_bitCount_16 : decode prog_10_method_49_code 16 = .ok (.iconst 2, 1) := by decide +kernel
theorem dJ0_bitCount_17 : decode prog_10_method_49_code 17 = .ok (.iushr, 1) := by decide +kernel
theorem dJ0_bitCount_18 : decode prog_10_method_49_code 18 = .ok (.ldc_w 266, 3) := by decide +kernel
theorem dJ0_bitCount_21 : decode prog_10_method_49_code 21 = .ok (.iand, 1) := by decide +kernel
theorem dJ0_bitCount_22 : decode prog_10_method_49_code 22 = .ok (.iadd, 1) := by decide +kernel
theorem dJ0_bitCount_23 : decode prog_10_method_49_code 23 = .ok (.istore_n 0, 1) := by decide +kernel
theorem dJ0_bitCount_24 : decode prog_10_method_49_code 24 = .ok (.iload_n 0, 1) := by decide +kernel
theorem dJ0_bitCount_25 : decode prog_10_method_49_code 25 = .ok (.iload_n 0, 1) := by decide +kernel
theorem dJ0_bitCount_26 : decode prog_10_method_49_code 26 = .ok (.iconst 4, 1) := by decide +kernel
theorem dJ0_bitCount_27 : decode prog_10_method_49_code 27 = .ok (.iushr, 1) := by decide +kernel
theorem dJ0_bitCount_28 : decode prog_10_method_49_code 28 = .ok (.iadd, 1) := by decide +kernel
theorem dJ0_bitCount_29 : decode prog_10_method_49_code 29 = .ok (.ldc_w 267, 3) := by decide +kernel
theorem dJ0_bitCount_32 : decode prog_10_method_49_code 32 = .ok (.iand, 1) := by decide +kernel
theorem dJ0_bitCount_33 : decode prog_10_method_49_code 33 = .ok (.istore_n 0, 1) := by decide +kernel
theorem dJ0_bitCount_34 : decode prog_10_method_49_code 34 = .ok (.iload_n 0, 1) := by decide +kernel
theorem dJ0_bitCount_35 : decode prog_10_method_49_code 35 = .ok (.iload_n 0, 1) := by decide +kernel
theorem dJ0_bitCount_36 : decode prog_10_method_49_code 36 = .ok (.bipush 8, 2) := by decide +kernel
theorem dJ0_bitCount_38 : decode prog_10_method_49_code 38 = .ok (.iushr, 1) := by decide +kernel
theorem dJ0_bitCount_39 : decode prog_10_method_49_code 39 = .ok (.iadd, 1) := by decide +kernel
theorem dJ0_bitCount_40 : decode prog_10_method_49_code 40 = .ok (.istore_n 0, 1) := by decide +kernel
theorem dJ0_bitCount_41 : decode prog_10_method_49_code 41 = .ok (.iload_n 0, 1) := by decide +kernel
theorem dJ0_bitCount_42 : decode prog_10_method_49_code 42 = .ok (.iload_n 0, 1) := by decide +kernel
theorem dJ0_bitCount_43 : decode prog_10_method_49_code 43 = .ok (.bipush 16, 2) := by decide +kernel
theorem dJ0_bitCount_45 : decode prog_10_method_49_code 45 = .ok (.iushr, 1) := by decide +kernel
theorem dJ0_bitCount_46 : decode prog_10_method_49_code 46 = .ok (.iadd, 1) := by decide +kernel
theorem dJ0_bitCount_47 : decode prog_10_method_49_code 47 = .ok (.istore_n 0, 1) := by decide +kernel
theorem dJ0_bitCount_48 : decode prog_10_method_49_code 48 = .ok (.iload_n 0, 1) := by decide +kernel
theorem dJ0_bitCount_49 : decode prog_10_method_49_code 49 = .ok (.bipush 63, 2) := by decide +kernel
theorem dJ0_bitCount_51 : decode prog_10_method_49_code 51 = .ok (.iand, 1) := by decide +kernel
theorem dJ0_bitCount_52 : decode prog_10_method_49_code 52 = .ok (.ireturn, 1) := by decide +kernel
theorem dJ_fillI_0 : decode prog_13_method_103_code 0 = .ok (.iconst 0, 1) := by decide +kernel
theorem dJ_fillI_1 : decode prog_13_method_103_code 1 = .ok (.istore_n 2, 1) := by decide +kernel
theorem dJ_fillI_2 : decode prog_13_method_103_code 2 = .ok (.aload_n 0, 1) := by decide +kernel
theorem dJ_fillI_3 : decode prog_13_method_103_code 3 = .ok (.arraylength, 1) := by decide +kernel
theorem dJ_fillI_4 : decode prog_13_method_103_code 4 = .ok (.istore_n 3, 1) := by decide +kernel
theorem dJ_fillI_5 : decode prog_13_method_103_code 5 = .ok (.iload_n 2, 1) := by decide +kernel
theorem dJ_fillI_6 : decode prog_13_method_103_code 6 = .ok (.iload_n 3, 1) := by decide +kernel
theorem dJ_fillI_7 : decode prog_13_method_103_code 7 = .ok (.if_icmp .ge 13, 3) := by decide +kernel
theorem dJ_fillI_10 : decode prog_13_method_103_code 10 = .ok (.aload_n 0, 1) := by decide +kernel
theorem dJ_fillI_11 : decode prog_13_method_103_code 11 = .ok (.iload_n 2, 1) := by decide +kernel
theorem dJ_fillI_12 : decode prog_13_method_103_code 12 = .ok (.iload_n 1, 1) := by decide +kernel
theorem dJ_fillI_13 : decode prog_13_method_103_code 13 = .ok (.iastore, 1) := by decide +kernel
theorem dJ_fillI_14 : decode prog_13_method_103_code 14 = .ok (.iinc 2 1, 3) := by decide +kernel
theorem dJ_fillI_17 : decode prog_13_method_103_code 17 = .ok (.goto (-12), 3) := by decide +kernel
theorem dJ_fillI_20 : decode prog_13_method_103_code 20 = .ok (.return_, 1) := by decide +kernel
theorem dJ_fillL_0 : decode prog_13_method_101_code 0 = .ok (.iconst 0, 1) := by decide +kernel
theorem dJ_fillL_1 : decode prog_13_method_101_code 1 = .ok (.istore_n 3, 1) := by decide +kernel
theorem dJ_fillL_2 : decode prog_13_method_101_code 2 = .ok (.aload_n 0, 1) := by decide +kernel
theorem dJ_fillL_3 : decode prog_13_method_101_code 3 = .ok (.arraylength, 1) := by decide +kernel
theorem dJ_fillL_4 : decode prog_13_method_101_code 4 = .ok (.istore 4, 2) := by decide +kernel
theorem dJ_fillL_6 : decode prog_13_method_101_code 6 = .ok (.iload_n 3, 1) := by decide +kernel
theorem dJ_fillL_7 : decode prog_13_method_101_code 7 = .ok (.iload 4, 2) := by decide +kernel
theorem dJ_fillL_9 : decode prog_13_method_101_code 9 = .ok (.if_icmp .ge 13, 3) := by decide +kernel
theorem dJ_fillL_12 : decode prog_13_method_101_code 12 = .ok (.aload_n 0, 1) := by decide +kernel
theorem dJ_fillL_13 : decode prog_13_method_101_code 13 = .ok (.iload_n 3, 1) := by decide +kernel
theorem dJ_fillL_14 : decode prog_13_method_101_code 14 = .ok (.lload_n 1, 1) := by decide +kernel
theorem dJ_fillL_15 : decode prog_13_method_101_code 15 = .ok (.lastore, 1) := by decide +kernel
theorem dJ_fillL_16 : decode prog_13_method_101_code 16 = .ok (.iinc 3 1, 3) := by decide +kernel
theorem dJ_fillL_19 : decode prog_13_method_101_code 19 = .ok (.goto (-13), 3) := by decide +kernel
theorem dJ_fillL_22 : decode prog_13_method_101_code 22 = .ok (.return_, 1) := by decide +kernel
end
section
theorem dX4_init_0 : decode cX4_init 0 = .ok (.aload_n 0, 1) := by decide +kernel
theorem dX4_init_1 : decode cX4_init 1 = .ok (.invokespecial 3, 3) := by decide +kernel
theorem dX4_init_4 : decode cX4_init 4 = .ok (.aload_n 0, 1) := by decide +kernel
theorem dX4_init_5 : decode cX4_init 5 = .ok (.bipush 60, 2) := by decide +kernel
theorem dX4_init_7 : decode cX4_init 7 = .ok (.newarray .int, 2) := by decide +kernel
theorem dX4_init_9 : decode cX4_init 9 = .ok (.putfield 11, 3) := by decide +kernel
theorem dX4_init_12 : decode cX4_init 12 = .ok (.aload_n 0, 1) := by decide +kernel
theorem dX4_init_13 : decode cX4_init 13 = .ok (.bipush 7, 2) := by decide +kernel
theorem dX4_init_15 : decode cX4_init 15 = .ok (.newarray .int, 2) := by decide +kernel
theorem dX4_init_17 : decode cX4_init 17 = .ok (.putfield 15, 3) := by decide +kernel
theorem dX4_init_20 : decode cX4_init 20 = .ok (.aload_n 0, 1) := by decide +kernel
theorem dX4_init_21 : decode cX4_init 21 = .ok (.bipush 7, 2) := by decide +kernel
theorem dX4_init_23 : decode cX4_init 23 = .ok (.newarray .int, 2) := by decide +kernel
theorem dX4_init_25 : decode cX4_init 25 = .ok (.putfield 18, 3) := by decide +kernel
theorem dX4_init_28 : decode cX4_init 28 = .ok (.aload_n 0, 1) := by decide +kernel
theorem dX4_init_29 : decode cX4_init 29 = .ok (.bipush 7, 2) := by decide +kernel
theorem dX4_init_31 : decode cX4_init 31 = .ok (.newarray .int, 2) := by decide +kernel
theorem dX4_init_33 : decode cX4_init 33 = .ok (.putfield 21, 3) := by decide +kernel
theorem dX4_init_36 : decode cX4_init 36 = .ok (.return_, 1) := by decide +kernel
theorem dX4_length_0 : decode cX4_length 0 = .ok (.aload_n 0, 1) := by decide +kernel
theorem dX4_length_1 : decode cX4_length 1 = .ok (.getfield 24, 3) := by decide +kernel
theorem dX4_length_4 : decode cX4_length 4 = .ok (.ireturn, 1) := by decide +kernel
theorem dX4_clear_0 : decode cX4_clear 0 = .ok (.aload_n 0, 1) := by decide +kernel
theorem dX4_clear_1 : decode cX4_clear 1 = .ok (.iconst 0, 1) := by decide +kernel
theorem dX4_clear_2 : decode cX4_clear 2 = .ok (.putfield 24, 3) := by decide +kernel
theorem dX4_clear_5 : decode cX4_clear 5 = .ok (.return_, 1) := by decide +kernel
theorem dX4_append_0 : decode cX4_append 0 = .ok (.aload_n 0, 1) := by decide +kernel
theorem dX4_append_1 : decode cX4_append 1 = .ok (.getfield 24, 3) := by decide +kernel
theorem dX4_append_4 : decode cX4_append 4 = .ok (.bipush 60, 2) := by decide +kernel
theorem dX4_append_6 : decode cX4_append 6 = .ok (.if_icmp .lt 5, 3) := by decide +kernel
theorem dX4_append_9 : decode cX4_append 9 = .ok (.iconst 0, 1) := by decide +kernel
theorem dX4_append_10 : decode cX4_append 10 = .ok (.ireturn, 1) := by decide +kernel
theorem dX4_append_11 : decode cX4_append 11 = .ok (.aload_n 0, 1) := by decide +kernel
theorem dX4_append_12 : decode cX4_append 12 = .ok (.getfield 11, 3) := by decide +kernel
theorem dX4_append_15 : decode cX4_append 15 = .ok (.aload_n 0, 1) := by decide +kernel
theorem dX4_append_16 : decode cX4_append 16 = .ok (.getfield 24, 3) := by decide +kernel
theorem dX4_append_19 : decode cX4_append 19 = .ok (.iload_n 1, 1) := by decide +kernel
theorem dX4_append_20 : decode cX4_append 20 = .ok (.iastore, 1) := by decide +kernel
theorem dX4_append_21 : decode cX4_append 21 = .ok (.aload_n 0, 1) := by decide +kernel
theorem dX4_append_22 : decode cX4_append 22 = .ok (.dup, 1) := by decide +kernel
theorem dX4_append_23 : decode cX4_append 23 = .ok (.getfield 24, 3) := by decide +kernel
theorem dX4_append_26 : decode cX4_append 26 = .ok (.iconst 1, 1) := by decide +kernel
theorem dX4_append_27 : decode cX4_append 27 = .ok (.iadd, 1) := by decide +kernel
theorem dX4_append_28 : decode cX4_append 28 = .ok (.putfield 24, 3) := by decide +kernel
theorem dX4_append_31 : decode cX4_append 31 = .ok (.iconst 1, 1) := by decide +kernel
theorem dX4_append_32 : decode cX4_append 32 = .ok (.ireturn, 1) := by decide +kernel
theorem dX4_parse_0 : decode cX4_parse 0 = .ok (.aload_n 0, 1) := by decide +kernel
theorem dX4_parse_1 : decode cX4_parse 1 = .ok (.iconst 0, 1) := by decide +kernel
theorem dX4_parse_2 : decode cX4_parse 2 = .ok (.putfield 28, 3) := by decide +kernel
theorem dX4_parse_5 : decode cX4_parse 5 = .ok (.aload_n 0, 1) := by decide +kernel
theorem dX4_parse_6 : decode cX4_parse 6 = .ok (.iconst 0, 1) := by decide +kernel
theorem dX4_parse_7 : decode cX4_parse 7 = .ok (.putfield 31, 3) := by decide +kernel
theorem dX4_parse_10 : decode cX4_parse 10 = .ok (.aload_n 0, 1) := by decide +kernel
theorem dX4_parse_11 : decode cX4_parse 11 = .ok (.iconst 0, 1) := by decide +kernel
theorem dX4_parse_12 : decode cX4_parse 12 = .ok (.putfield 34, 3) := by decide +kernel
theorem dX4_parse_15 : decode cX4_parse 15 = .ok (.iconst 0, 1) := by decide +kernel
theorem dX4_parse_16 : decode cX4_parse 16 = .ok (.istore_n 1, 1) := by decide +kernel
theorem dX4_parse_17 : decode cX4_parse 17 = .ok (.iload_n 1, 1) := by decide +kernel
theorem dX4_parse_18 : decode cX4_parse 18 = .ok (.aload_n 0, 1) := by decide +kernel
theorem dX4_parse_19 : decode cX4_parse 19 = .ok (.getfield 24, 3) := by decide +kernel
theorem dX4_parse_22 : decode cX4_parse 22 = .ok (.if_icmp .ge 30, 3) := by decide +kernel
theorem dX4_parse_25 : decode cX4_parse 25 = .ok (.iload_n 1, 1) := by decide +kernel
theorem dX4_parse_26 : decode cX4_parse 26 = .ok (.bipush 60, 2) := by decide +kernel
theorem dX4_parse_28 : decode cX4_parse 28 = .ok (.if_icmp .ge 24, 3) := by decide +kernel
theorem dX4_parse_31 : decode cX4_parse 31 = .ok (.aload_n 0, 1) := by decide +kernel
theorem dX4_parse_32 : decode cX4_parse 32 = .ok (.aload_n 0, 1) := by decide +kernel
theorem dX4_parse_33 : decode cX4_parse 33 = .ok (.getfield 11, 3) := by decide +kernel
theorem dX4_parse_36 : decode cX4_parse 36 = .ok (.iload_n 1, 1) := by decide +kernel
theorem dX4_parse_37 : decode cX4_parse 37 = .ok (.iaload, 1) := by decide +kernel
theorem dX4_parse_38 : decode cX4_parse 38 = .ok (.invokevirtual 37, 3) := by decide +kernel
theorem dX4_parse_41 : decode cX4_parse 41 = .ok (.ifCond .ne 5, 3) := by decide +kernel
theorem dX4_parse_44 : decode cX4_parse 44 = .ok (.iload_n 1, 1) := by decide +kernel
theorem dX4_parse_45 : decode cX4_parse 45 = .ok (.ireturn, 1) := by decide +kernel
theorem dX4_parse_46 : decode cX4_parse 46 = .ok (.iinc 1 1, 3) := by decide +kernel
theorem dX4_parse_49 : decode cX4_parse 49 = .ok (.goto (-32), 3) := by decide +kernel
theorem dX4_parse_52 : decode cX4_parse 52 = .ok (.aload_n 0, 1) := by decide +kernel
theorem dX4_parse_53 : decode cX4_parse 53 = .ok (.invokevirtual 41, 3) := by decide +kernel
theorem dX4_parse_56 : decode cX4_parse 56 = .ok (.ifCond .eq 7, 3) := by decide +kernel
theorem dX4_parse_59 : decode cX4_parse 59 = .ok (.iconst (-1), 1) := by decide +kernel
theorem dX4_parse_60 : decode cX4_parse 60 = .ok (.goto 7, 3) := by decide +kernel
theorem dX4_parse_63 : decode cX4_parse 63 = .ok (.aload_n 0, 1) := by decide +kernel
theorem dX4_parse_64 : decode cX4_parse 64 = .ok (.getfield 24, 3) := by decide +kernel
theorem dX4_parse_67 : decode cX4_parse 67 = .ok (.ireturn, 1) := by decide +kernel
theorem dX4_parsedNodes_0 : decode cX4_parsedNodes 0 = .ok (.aload_n 0, 1) := by decide +kernel
theorem dX4_parsedNodes_1 : decode cX4_parsedNodes 1 = .ok (.getfield 34, 3) := by decide +kernel
theorem dX4_parsedNodes_4 : decode cX4_parsedNodes 4 = .ok (.ireturn, 1) := by decide +kernel
theorem dX4_parsedCode_0 : decode cX4_parsedCode 0 = .ok (.iconst 0, 1) := by decide +kernel
theorem dX4_parsedCode_1 : decode cX4_parsedCode 1 = .ok (.istore_n 1, 1) := by decide +kernel
theorem dX4_parsedCode_2 : decode cX4_parsedCode 2 = .ok (.iconst 0, 1) := by decide +kernel
theorem dX4_parsedCode_3 : decode cX4_parsedCode 3 = .ok (.istore_n 2, 1) := by decide +kernel
theorem dX4_parsedCode_4 : decode cX4_parsedCode 4 = .ok (.iload_n 2, 1) := by decide +kernel
theorem dX4_parsedCode_5 : decode cX4_parsedCode 5 = .ok (.aload_n 0, 1) := by decide +kernel
theorem dX4_parsedCode_6 : decode cX4_parsedCode 6 = .ok (.getfield 34, 3) := by decide +kernel
theorem dX4_parsedCode_9 : decode cX4_parsedCode 9 = .ok (.if_icmp .ge 32, 3) := by decide +kernel
theorem dX4_parsedCode_12 : decode cX4_parsedCode 12 = .ok (.iload_n 2, 1) := by decide +kernel
theorem dX4_parsedCode_13 : decode cX4_parsedCode 13 = .ok (.bipush 7, 2) := by decide +kernel
theorem dX4_parsedCode_15 : decode cX4_parsedCode 15 = .ok (.if_icmp .ge 26, 3) := by decide +kernel
theorem dX4_parsedCode_18 : decode cX4_parsedCode 18 = .ok (.iload_n 1, 1) := by decide +kernel
theorem dX4_parsedCode_19 : decode cX4_parsedCode 19 = .ok (.aload_n 0, 1) := by decide +kernel
theorem dX4_parsedCode_20 : decode cX4_parsedCode 20 = .ok (.getfield 21, 3) := by decide +kernel
theorem dX4_parsedCode_23 : decode cX4_parsedCode 23 = .ok (.iload_n 2, 1) := by decide +kernel
theorem dX4_parsedCode_24 : decode cX4_parsedCode 24 = .ok (.iaload, 1) := by decide +kernel
theorem dX4_parsedCode_25 : decode cX4_parsedCode 25 = .ok (.aload_n 0, 1) := by decide +kernel
theorem dX4_parsedCode_26 : decode cX4_parsedCode 26 = .ok (.getfield 34, 3) := by decide +kernel
theorem dX4_parsedCode_29 : decode cX4_parsedCode 29 = .ok (.iload_n 2, 1) := by decide +kernel
theorem dX4_parsedCode_30 : decode cX4_parsedCode 30 = .ok (.invokestatic 45, 3) := by decide +kernel
theorem dX4_parsedCode_33 : decode cX4_parsedCode 33 = .ok (.ior, 1) := by decide +kernel
theorem dX4_parsedCode_34 : decode cX4_parsedCode 34 = .ok (.istore_n 1, 1) := by decide +kernel
theorem dX4_parsedCode_35 : decode cX4_parsedCode 35 = .ok (.iinc 2 1, 3) := by decide +kernel
theorem dX4_parsedCode_38 : decode cX4_parsedCode 38 = .ok (.goto (-34), 3) := by decide +kernel
theorem dX4_parsedCode_41 : decode cX4_parsedCode 41 = .ok (.iload_n 1, 1) := by decide +kernel
theorem dX4_parsedCode_42 : decode cX4_parsedCode 42 = .ok (.ireturn, 1) := by decide +kernel
theorem dX4_isWhole_0 : decode cX4_isWhole 0 = .ok (.aload_n 0, 1) := by decide +kernel
theorem dX4_isWhole_1 : decode cX4_isWhole 1 = .ok (.getfield 31, 3) := by decide +kernel
theorem dX4_isWhole_4 : decode cX4_isWhole 4 = .ok (.ifCond .le 14, 3) := by decide +kernel
theorem dX4_isWhole_7 : decode cX4_isWhole 7 = .ok (.aload_n 0, 1) := by decide +kernel
theorem dX4_isWhole_8 : decode cX4_isWhole 8 = .ok (.getfield 28, 3) := by decide +kernel
theorem dX4_isWhole_11 : decode cX4_isWhole 11 = .ok (.ifCond .ne 7, 3) := by decide +kernel
theorem dX4_isWhole_14 : decode cX4_isWhole 14 = .ok (.iconst 1, 1) := by decide +kernel
theorem dX4_isWhole_15 : decode cX4_isWhole 15 = .ok (.goto 4, 3) := by decide +kernel
theorem dX4_isWhole_18 : decode cX4_isWhole 18 = .ok (.iconst 0, 1) := by decide +kernel
theorem dX4_isWhole_19 : decode cX4_isWhole 19 = .ok (.ireturn, 1) := by decide +kernel
theorem dX4_accepts_0 : decode cX4_accepts 0 = .ok (.iload_n 1, 1) := by decide +kernel
theorem dX4_accepts_1 : decode cX4_accepts 1 = .ok (.lookupswitch 50 #[(40, 35), (41, 45), (46, 40)], 35) := by decide +kernel
theorem dX4_accepts_36 : decode cX4_accepts 36 = .ok (.aload_n 0, 1) := by decide +kernel
theorem dX4_accepts_37 : decode cX4_accepts 37 = .ok (.invokevirtual 51, 3) := by decide +kernel
theorem dX4_accepts_40 : decode cX4_accepts 40 = .ok (.ireturn, 1) := by decide +kernel
theorem dX4_accepts_41 : decode cX4_accepts 41 = .ok (.aload_n 0, 1) := by decide +kernel
theorem dX4_accepts_42 : decode cX4_accepts 42 = .ok (.invokevirtual 54, 3) := by decide +kernel
theorem dX4_accepts_45 : decode cX4_accepts 45 = .ok (.ireturn, 1) := by decide +kernel
theorem dX4_accepts_46 : decode cX4_accepts 46 = .ok (.aload_n 0, 1) := by decide +kernel
theorem dX4_accepts_47 : decode cX4_accepts 47 = .ok (.invokevirtual 57, 3) := by decide +kernel
theorem dX4_accepts_50 : decode cX4_accepts 50 = .ok (.ireturn, 1) := by decide +kernel
theorem dX4_accepts_51 : decode cX4_accepts 51 = .ok (.iconst 0, 1) := by decide +kernel
theorem dX4_accepts_52 : decode cX4_accepts 52 = .ok (.ireturn, 1) := by decide +kernel
theorem dX4_awaitedNow_0 : decode cX4_awaitedNow 0 = .ok (.aload_n 0, 1) := by decide +kernel
theorem dX4_awaitedNow_1 : decode cX4_awaitedNow 1 = .ok (.getfield 28, 3) := by decide +kernel
theorem dX4_awaitedNow_4 : decode cX4_awaitedNow 4 = .ok (.ifCond .le 26, 3) := by decide +kernel
theorem dX4_awaitedNow_7 : decode cX4_awaitedNow 7 = .ok (.aload_n 0, 1) := by decide +kernel
theorem dX4_awaitedNow_8 : decode cX4_awaitedNow 8 = .ok (.getfield 28, 3) := by decide +kernel
theorem dX4_awaitedNow_11 : decode cX4_awaitedNow 11 = .ok (.bipush 7, 2) := by decide +kernel
theorem dX4_awaitedNow_13 : decode cX4_awaitedNow 13 = .ok (.if_icmp .gt 17, 3) := by decide +kernel
theorem dX4_awaitedNow_16 : decode cX4_awaitedNow 16 = .ok (.aload_n 0, 1) := by decide +kernel
theorem dX4_awaitedNow_17 : decode cX4_awaitedNow 17 = .ok (.getfield 15, 3) := by decide +kernel
theorem dX4_awaitedNow_20 : decode cX4_awaitedNow 20 = .ok (.aload_n 0, 1) := by decide +kernel
theorem dX4_awaitedNow_21 : decode cX4_awaitedNow 21 = .ok (.getfield 28, 3) := by decide +kernel
theorem dX4_awaitedNow_24 : decode cX4_awaitedNow 24 = .ok (.iconst 1, 1) := by decide +kernel
theorem dX4_awaitedNow_25 : decode cX4_awaitedNow 25 = .ok (.isub, 1) := by decide +kernel
theorem dX4_awaitedNow_26 : decode cX4_awaitedNow 26 = .ok (.iaload, 1) := by decide +kernel
theorem dX4_awaitedNow_27 : decode cX4_awaitedNow 27 = .ok (.goto 4, 3) := by decide +kernel
theorem dX4_awaitedNow_30 : decode cX4_awaitedNow 30 = .ok (.iconst 2, 1) := by decide +kernel
theorem dX4_awaitedNow_31 : decode cX4_awaitedNow 31 = .ok (.ireturn, 1) := by decide +kernel
theorem dX4_opensNode_0 : decode cX4_opensNode 0 = .ok (.aload_n 0, 1) := by decide +kernel
theorem dX4_opensNode_1 : decode cX4_opensNode 1 = .ok (.getfield 31, 3) := by decide +kernel
theorem dX4_opensNode_4 : decode cX4_opensNode 4 = .ok (.ifCond .ne 7, 3) := by decide +kernel
theorem dX4_opensNode_7 : decode cX4_opensNode 7 = .ok (.iconst 1, 1) := by decide +kernel
theorem dX4_opensNode_8 : decode cX4_opensNode 8 = .ok (.goto 4, 3) := by decide +kernel
theorem dX4_opensNode_11 : decode cX4_opensNode 11 = .ok (.iconst 0, 1) := by decide +kernel
theorem dX4_opensNode_12 : decode cX4_opensNode 12 = .ok (.istore_n 1, 1) := by decide +kernel
theorem dX4_opensNode_13 : decode cX4_opensNode 13 = .ok (.aload_n 0, 1) := by decide +kernel
theorem dX4_opensNode_14 : decode cX4_opensNode 14 = .ok (.getfield 31, 3) := by decide +kernel
theorem dX4_opensNode_17 : decode cX4_opensNode 17 = .ok (.bipush 7, 2) := by decide +kernel
theorem dX4_opensNode_19 : decode cX4_opensNode 19 = .ok (.if_icmp .ge 24, 3) := by decide +kernel
theorem dX4_opensNode_22 : decode cX4_opensNode 22 = .ok (.aload_n 0, 1) := by decide +kernel
theorem dX4_opensNode_23 : decode cX4_opensNode 23 = .ok (.getfield 28, 3) := by decide +kernel
theorem dX4_opensNode_26 : decode cX4_opensNode 26 = .ok (.bipush 7, 2) := by decide +kernel
theorem dX4_opensNode_28 : decode cX4_opensNode 28 = .ok (.if_icmp .ge 15, 3) := by decide +kernel
theorem dX4_opensNode_31 : decode cX4_opensNode 31 = .ok (.iload_n 1, 1) := by decide +kernel
theorem dX4_opensNode_32 : decode cX4_opensNode 32 = .ok (.ifCond .ne 13, 3) := by decide +kernel
theorem dX4_opensNode_35 : decode cX4_opensNode 35 = .ok (.aload_n 0, 1) := by decide +kernel
theorem dX4_opensNode_36 : decode cX4_opensNode 36 = .ok (.invokevirtual 60, 3) := by decide +kernel
theorem dX4_opensNode_39 : decode cX4_opensNode 39 = .ok (.iconst 2, 1) := by decide +kernel
theorem dX4_opensNode_40 : decode cX4_opensNode 40 = .ok (.if_icmp .ne 5, 3) := by decide +kernel
theorem dX4_opensNode_43 : decode cX4_opensNode 43 = .ok (.iconst 0, 1) := by decide +kernel
theorem dX4_opensNode_44 : decode cX4_opensNode 44 = .ok (.ireturn, 1) := by decide +kernel
theorem dX4_opensNode_45 : decode cX4_opensNode 45 = .ok (.aload_n 0, 1) := by decide +kernel
theorem dX4_opensNode_46 : decode cX4_opensNode 46 = .ok (.getfield 15, 3) := by decide +kernel
theorem dX4_opensNode_49 : decode cX4_opensNode 49 = .ok (.aload_n 0, 1) := by decide +kernel
theorem dX4_opensNode_50 : decode cX4_opensNode 50 = .ok (.getfield 28, 3) := by decide +kernel
theorem dX4_opensNode_53 : decode cX4_opensNode 53 = .ok (.iconst 0, 1) := by decide +kernel
theorem dX4_opensNode_54 : decode cX4_opensNode 54 = .ok (.iastore, 1) := by decide +kernel
theorem dX4_opensNode_55 : decode cX4_opensNode 55 = .ok (.aload_n 0, 1) := by decide +kernel
theorem dX4_opensNode_56 : decode cX4_opensNode 56 = .ok (.dup, 1) := by decide +kernel
theorem dX4_opensNode_57 : decode cX4_opensNode 57 = .ok (.getfield 28, 3) := by decide +kernel
theorem dX4_opensNode_60 : decode cX4_opensNode 60 = .ok (.iconst 1, 1) := by decide +kernel
theorem dX4_opensNode_61 : decode cX4_opensNode 61 = .ok (.iadd, 1) := by decide +kernel
theorem dX4_opensNode_62 : decode cX4_opensNode 62 = .ok (.putfield 28, 3) := by decide +kernel
theorem dX4_opensNode_65 : decode cX4_opensNode 65 = .ok (.aload_n 0, 1) := by decide +kernel
theorem dX4_opensNode_66 : decode cX4_opensNode 66 = .ok (.dup, 1) := by decide +kernel
theorem dX4_opensNode_67 : decode cX4_opensNode 67 = .ok (.getfield 31, 3) := by decide +kernel
theorem dX4_opensNode_70 : decode cX4_opensNode 70 = .ok (.iconst 1, 1) := by decide +kernel
theorem dX4_opensNode_71 : decode cX4_opensNode 71 = .ok (.iadd, 1) := by decide +kernel
theorem dX4_opensNode_72 : decode cX4_opensNode 72 = .ok (.putfield 31, 3) := by decide +kernel
theorem dX4_opensNode_75 : decode cX4_opensNode 75 = .ok (.iconst 1, 1) := by decide +kernel
theorem dX4_opensNode_76 : decode cX4_opensNode 76 = .ok (.ireturn, 1) := by decide +kernel
theorem dX4_staysNothing_0 : decode cX4_staysNothing 0 = .ok (.aload_n 0, 1) := by decide +kernel
theorem dX4_staysNothing_1 : decode cX4_staysNothing 1 = .ok (.invokevirtual 60, 3) := by decide +kernel
theorem dX4_staysNothing_4 : decode cX4_staysNothing 4 = .ok (.iconst 2, 1) := by decide +kernel
theorem dX4_staysNothing_5 : decode cX4_staysNothing 5 = .ok (.if_icmp .ne 5, 3) := by decide +kernel
theorem dX4_staysNothing_8 : decode cX4_staysNothing 8 = .ok (.iconst 0, 1) := by decide +kernel
theorem dX4_staysNothing_9 : decode cX4_staysNothing 9 = .ok (.ireturn, 1) := by decide +kernel
theorem dX4_staysNothing_10 : decode cX4_staysNothing 10 = .ok (.aload_n 0, 1) := by decide +kernel
theorem dX4_staysNothing_11 : decode cX4_staysNothing 11 = .ok (.invokevirtual 64, 3) := by decide +kernel
theorem dX4_staysNothing_14 : decode cX4_staysNothing 14 = .ok (.iconst 1, 1) := by decide +kernel
theorem dX4_staysNothing_15 : decode cX4_staysNothing 15 = .ok (.ireturn, 1) := by decide +kernel
theorem dX4_closesNode_0 : decode cX4_closesNode 0 = .ok (.aload_n 0, 1) := by decide +kernel
theorem dX4_closesNode_1 : decode cX4_closesNode 1 = .ok (.getfield 28, 3) := by decide +kernel
theorem dX4_closesNode_4 : decode cX4_closesNode 4 = .ok (.ifCond .le 27, 3) := by decide +kernel
theorem dX4_closesNode_7 : decode cX4_closesNode 7 = .ok (.aload_n 0, 1) := by decide +kernel
theorem dX4_closesNode_8 : decode cX4_closesNode 8 = .ok (.getfield 28, 3) := by decide +kernel
theorem dX4_closesNode_11 : decode cX4_closesNode 11 = .ok (.bipush 7, 2) := by decide +kernel
theorem dX4_closesNode_13 : decode cX4_closesNode 13 = .ok (.if_icmp .gt 18, 3) := by decide +kernel
theorem dX4_closesNode_16 : decode cX4_closesNode 16 = .ok (.aload_n 0, 1) := by decide +kernel
theorem dX4_closesNode_17 : decode cX4_closesNode 17 = .ok (.getfield 15, 3) := by decide +kernel
theorem dX4_closesNode_20 : decode cX4_closesNode 20 = .ok (.aload_n 0, 1) := by decide +kernel
theorem dX4_closesNode_21 : decode cX4_closesNode 21 = .ok (.getfield 28, 3) := by decide +kernel
theorem dX4_closesNode_24 : decode cX4_closesNode 24 = .ok (.iconst 1, 1) := by decide +kernel
theorem dX4_closesNode_25 : decode cX4_closesNode 25 = .ok (.isub, 1) := by decide +kernel
theorem dX4_closesNode_26 : decode cX4_closesNode 26 = .ok (.iaload, 1) := by decide +kernel
theorem dX4_closesNode_27 : decode cX4_closesNode 27 = .ok (.iconst 2, 1) := by decide +kernel
theorem dX4_closesNode_28 : decode cX4_closesNode 28 = .ok (.if_icmp .eq 5, 3) := by decide +kernel
theorem dX4_closesNode_31 : decode cX4_closesNode 31 = .ok (.iconst 0, 1) := by decide +kernel
theorem dX4_closesNode_32 : decode cX4_closesNode 32 = .ok (.ireturn, 1) := by decide +kernel
theorem dX4_closesNode_33 : decode cX4_closesNode 33 = .ok (.aload_n 0, 1) := by decide +kernel
theorem dX4_closesNode_34 : decode cX4_closesNode 34 = .ok (.dup, 1) := by decide +kernel
theorem dX4_closesNode_35 : decode cX4_closesNode 35 = .ok (.getfield 28, 3) := by decide +kernel
theorem dX4_closesNode_38 : decode cX4_closesNode 38 = .ok (.iconst 1, 1) := by decide +kernel
theorem dX4_closesNode_39 : decode cX4_closesNode 39 = .ok (.isub, 1) := by decide +kernel
theorem dX4_closesNode_40 : decode cX4_closesNode 40 = .ok (.putfield 28, 3) := by decide +kernel
theorem dX4_closesNode_43 : decode cX4_closesNode 43 = .ok (.aload_n 0, 1) := by decide +kernel
theorem dX4_closesNode_44 : decode cX4_closesNode 44 = .ok (.getfield 18, 3) := by decide +kernel
theorem dX4_closesNode_47 : decode cX4_closesNode 47 = .ok (.aload_n 0, 1) := by decide +kernel
theorem dX4_closesNode_48 : decode cX4_closesNode 48 = .ok (.getfield 28, 3) := by decide +kernel
theorem dX4_closesNode_51 : decode cX4_closesNode 51 = .ok (.iaload, 1) := by decide +kernel
theorem dX4_closesNode_52 : decode cX4_closesNode 52 = .ok (.istore_n 1, 1) := by decide +kernel
theorem dX4_closesNode_53 : decode cX4_closesNode 53 = .ok (.iload_n 1, 1) := by decide +kernel
theorem dX4_closesNode_54 : decode cX4_closesNode 54 = .ok (.ifCond .lt 23, 3) := by decide +kernel
theorem dX4_closesNode_57 : decode cX4_closesNode 57 = .ok (.iload_n 1, 1) := by decide +kernel
theorem dX4_closesNode_58 : decode cX4_closesNode 58 = .ok (.bipush 7, 2) := by decide +kernel
theorem dX4_closesNode_60 : decode cX4_closesNode 60 = .ok (.if_icmp .ge 17, 3) := by decide +kernel
theorem dX4_closesNode_63 : decode cX4_closesNode 63 = .ok (.aload_n 0, 1) := by decide +kernel
theorem dX4_closesNode_64 : decode cX4_closesNode 64 = .ok (.getfield 21, 3) := by decide +kernel
theorem dX4_closesNode_67 : decode cX4_closesNode 67 = .ok (.iload_n 1, 1) := by decide +kernel
theorem dX4_closesNode_68 : decode cX4_closesNode 68 = .ok (.aload_n 0, 1) := by decide +kernel
theorem dX4_closesNode_69 : decode cX4_closesNode 69 = .ok (.getfield 34, 3) := by decide +kernel
theorem dX4_closesNode_72 : decode cX4_closesNode 72 = .ok (.iload_n 1, 1) := by decide +kernel
theorem dX4_closesNode_73 : decode cX4_closesNode 73 = .ok (.isub, 1) := by decide +kernel
theorem dX4_closesNode_74 : decode cX4_closesNode 74 = .ok (.iconst 1, 1) := by decide +kernel
theorem dX4_closesNode_75 : decode cX4_closesNode 75 = .ok (.isub, 1) := by decide +kernel
theorem dX4_closesNode_76 : decode cX4_closesNode 76 = .ok (.iastore, 1) := by decide +kernel
theorem dX4_closesNode_77 : decode cX4_closesNode 77 = .ok (.aload_n 0, 1) := by decide +kernel
theorem dX4_closesNode_78 : decode cX4_closesNode 78 = .ok (.invokevirtual 64, 3) := by decide +kernel
theorem dX4_closesNode_81 : decode cX4_closesNode 81 = .ok (.iconst 1, 1) := by decide +kernel
theorem dX4_closesNode_82 : decode cX4_closesNode 82 = .ok (.ireturn, 1) := by decide +kernel
theorem dX4_endSubtree_0 : decode cX4_endSubtree 0 = .ok (.aload_n 0, 1) := by decide +kernel
theorem dX4_endSubtree_1 : decode cX4_endSubtree 1 = .ok (.getfield 28, 3) := by decide +kernel
theorem dX4_endSubtree_4 : decode cX4_endSubtree 4 = .ok (.ifCond .le 12, 3) := by decide +kernel
theorem dX4_endSubtree_7 : decode cX4_endSubtree 7 = .ok (.aload_n 0, 1) := by decide +kernel
theorem dX4_endSubtree_8 : decode cX4_endSubtree 8 = .ok (.getfield 28, 3) := by decide +kernel
theorem dX4_endSubtree_11 : decode cX4_endSubtree 11 = .ok (.bipush 7, 2) := by decide +kernel
theorem dX4_endSubtree_13 : decode cX4_endSubtree 13 = .ok (.if_icmp .le 4, 3) := by decide +kernel
theorem dX4_endSubtree_16 : decode cX4_endSubtree 16 = .ok (.return_, 1) := by decide +kernel
theorem dX4_endSubtree_17 : decode cX4_endSubtree 17 = .ok (.aload_n 0, 1) := by decide +kernel
theorem dX4_endSubtree_18 : decode cX4_endSubtree 18 = .ok (.getfield 28, 3) := by decide +kernel
theorem dX4_endSubtree_21 : decode cX4_endSubtree 21 = .ok (.iconst 1, 1) := by decide +kernel
theorem dX4_endSubtree_22 : decode cX4_endSubtree 22 = .ok (.isub, 1) := by decide +kernel
theorem dX4_endSubtree_23 : decode cX4_endSubtree 23 = .ok (.istore_n 1, 1) := by decide +kernel
theorem dX4_endSubtree_24 : decode cX4_endSubtree 24 = .ok (.aload_n 0, 1) := by decide +kernel
theorem dX4_endSubtree_25 : decode cX4_endSubtree 25 = .ok (.getfield 15, 3) := by decide +kernel
theorem dX4_endSubtree_28 : decode cX4_endSubtree 28 = .ok (.iload_n 1, 1) := by decide +kernel
theorem dX4_endSubtree_29 : decode cX4_endSubtree 29 = .ok (.iaload, 1) := by decide +kernel
theorem dX4_endSubtree_30 : decode cX4_endSubtree 30 = .ok (.ifCond .ne 33, 3) := by decide +kernel
theorem dX4_endSubtree_33 : decode cX4_endSubtree 33 = .ok (.aload_n 0, 1) := by decide +kernel
theorem dX4_endSubtree_34 : decode cX4_endSubtree 34 = .ok (.getfield 15, 3) := by decide +kernel
theorem dX4_endSubtree_37 : decode cX4_endSubtree 37 = .ok (.iload_n 1, 1) := by decide +kernel
theorem dX4_endSubtree_38 : decode cX4_endSubtree 38 = .ok (.iconst 1, 1) := by decide +kernel
theorem dX4_endSubtree_39 : decode cX4_endSubtree 39 = .ok (.iastore, 1) := by decide +kernel
theorem dX4_endSubtree_40 : decode cX4_endSubtree 40 = .ok (.aload_n 0, 1) := by decide +kernel
theorem dX4_endSubtree_41 : decode cX4_endSubtree 41 = .ok (.getfield 18, 3) := by decide +kernel
theorem dX4_endSubtree_44 : decode cX4_endSubtree 44 = .ok (.iload_n 1, 1) := by decide +kernel
theorem dX4_endSubtree_45 : decode cX4_endSubtree 45 = .ok (.aload_n 0, 1) := by decide +kernel
theorem dX4_endSubtree_46 : decode cX4_endSubtree 46 = .ok (.getfield 34, 3) := by decide +kernel
theorem dX4_endSubtree_49 : decode cX4_endSubtree 49 = .ok (.iastore, 1) := by decide +kernel
theorem dX4_endSubtree_50 : decode cX4_endSubtree 50 = .ok (.aload_n 0, 1) := by decide +kernel
theorem dX4_endSubtree_51 : decode cX4_endSubtree 51 = .ok (.dup, 1) := by decide +kernel
theorem dX4_endSubtree_52 : decode cX4_endSubtree 52 = .ok (.getfield 34, 3) := by decide +kernel
theorem dX4_endSubtree_55 : decode cX4_endSubtree 55 = .ok (.iconst 1, 1) := by decide +kernel
theorem dX4_endSubtree_56 : decode cX4_endSubtree 56 = .ok (.iadd, 1) := by decide +kernel
theorem dX4_endSubtree_57 : decode cX4_endSubtree 57 = .ok (.putfield 34, 3) := by decide +kernel
theorem dX4_endSubtree_60 : decode cX4_endSubtree 60 = .ok (.goto 10, 3) := by decide +kernel
theorem dX4_endSubtree_63 : decode cX4_endSubtree 63 = .ok (.aload_n 0, 1) := by decide +kernel
theorem dX4_endSubtree_64 : decode cX4_endSubtree 64 = .ok (.getfield 15, 3) := by decide +kernel
theorem dX4_endSubtree_67 : decode cX4_endSubtree 67 = .ok (.iload_n 1, 1) := by decide +kernel
theorem dX4_endSubtree_68 : decode cX4_endSubtree 68 = .ok (.iconst 2, 1) := by decide +kernel
theorem dX4_endSubtree_69 : decode cX4_endSubtree 69 = .ok (.iastore, 1) := by decide +kernel
theorem dX4_endSubtree_70 : decode cX4_endSubtree 70 = .ok (.return_, 1) := by decide +kernel
theorem dX5_init_0 : decode cX5_init 0 = .ok (.aload_n 0, 1) := by decide +kernel
theorem dX5_init_1 : decode cX5_init 1 = .ok (.invokespecial 3, 3) := by decide +kernel
theorem dX5_init_4 : decode cX5_init 4 = .ok (.aload_n 0, 1) := by decide +kernel
theorem dX5_init_5 : decode cX5_init 5 = .ok (.aload_n 1, 1) := by decide +kernel
theorem dX5_init_6 : decode cX5_init 6 = .ok (.putfield 9, 3) := by decide +kernel
theorem dX5_init_9 : decode cX5_init 9 = .ok (.aload_n 0, 1) := by decide +kernel
theorem dX5_init_10 : decode cX5_init 10 = .ok (.sipush 4382, 3) := by decide +kernel
theorem dX5_init_13 : decode cX5_init 13 = .ok (.newarray .int, 2) := by decide +kernel
theorem dX5_init_15 : decode cX5_init 15 = .ok (.putfield 17, 3) := by decide +kernel
theorem dX5_init_18 : decode cX5_init 18 = .ok (.aload_n 0, 1) := by decide +kernel
theorem dX5_init_19 : decode cX5_init 19 = .ok (.sipush 4382, 3) := by decide +kernel
theorem dX5_init_22 : decode cX5_init 22 = .ok (.newarray .int, 2) := by decide +kernel
theorem dX5_init_24 : decode cX5_init 24 = .ok (.putfield 21, 3) := by decide +kernel
theorem dX5_init_27 : decode cX5_init 27 = .ok (.aload_n 0, 1) := by decide +kernel
theorem dX5_init_28 : decode cX5_init 28 = .ok (.bipush 8, 2) := by decide +kernel
theorem dX5_init_30 : decode cX5_init 30 = .ok (.newarray .boolean, 2) := by decide +kernel
theorem dX5_init_32 : decode cX5_init 32 = .ok (.putfield 24, 3) := by decide +kernel
theorem dX5_init_35 : decode cX5_init 35 = .ok (.aload_n 0, 1) := by decide +kernel
theorem dX5_init_36 : decode cX5_init 36 = .ok (.sipush 626, 3) := by decide +kernel
theorem dX5_init_39 : decode cX5_init 39 = .ok (.newarray .int, 2) := by decide +kernel
theorem dX5_init_41 : decode cX5_init 41 = .ok (.putfield 28, 3) := by decide +kernel
theorem dX5_init_44 : decode cX5_init 44 = .ok (.aload_n 0, 1) := by decide +kernel
theorem dX5_init_45 : decode cX5_init 45 = .ok (.sipush 429, 3) := by decide +kernel
theorem dX5_init_48 : decode cX5_init 48 = .ok (.newarray .int, 2) := by decide +kernel
theorem dX5_init_50 : decode cX5_init 50 = .ok (.putfield 31, 3) := by decide +kernel
theorem dX5_init_53 : decode cX5_init 53 = .ok (.aload_n 0, 1) := by decide +kernel
theorem dX5_init_54 : decode cX5_init 54 = .ok (.sipush 626, 3) := by decide +kernel
theorem dX5_init_57 : decode cX5_init 57 = .ok (.newarray .int, 2) := by decide +kernel
theorem dX5_init_59 : decode cX5_init 59 = .ok (.putfield 34, 3) := by decide +kernel
theorem dX5_init_62 : decode cX5_init 62 = .ok (.aload_n 0, 1) := by decide +kernel
theorem dX5_init_63 : decode cX5_init 63 = .ok (.iconst 0, 1) := by decide +kernel
theorem dX5_init_64 : decode cX5_init 64 = .ok (.putfield 37, 3) := by decide +kernel
theorem dX5_init_67 : decode cX5_init 67 = .ok (.return_, 1) := by decide +kernel
theorem dX5_isTree_0 : decode cX5_isTree 0 = .ok (.iload_n 0, 1) := by decide +kernel
theorem dX5_isTree_1 : decode cX5_isTree 1 = .ok (.ifCond .le 14, 3) := by decide +kernel
theorem dX5_isTree_4 : decode cX5_isTree 4 = .ok (.iload_n 0, 1) := by decide +kernel
theorem dX5_isTree_5 : decode cX5_isTree 5 = .ok (.sipush 626, 3) := by decide +kernel
theorem dX5_isTree_8 : decode cX5_isTree 8 = .ok (.if_icmp .ge 7, 3) := by decide +kernel
theorem dX5_isTree_11 : decode cX5_isTree 11 = .ok (.iconst 1, 1) := by decide +kernel
theorem dX5_isTree_12 : decode cX5_isTree 12 = .ok (.goto 4, 3) := by decide +kernel
theorem dX5_isTree_15 : decode cX5_isTree 15 = .ok (.iconst 0, 1) := by decide +kernel
theorem dX5_isTree_16 : decode cX5_isTree 16 = .ok (.ireturn, 1) := by decide +kernel
theorem dX5_turnPlace_0 : decode cX5_turnPlace 0 = .ok (.iload_n 0, 1) := by decide +kernel
theorem dX5_turnPlace_1 : decode cX5_turnPlace 1 = .ok (.bipush 7, 2) := by decide +kernel
theorem dX5_turnPlace_3 : decode cX5_turnPlace 3 = .ok (.imul, 1) := by decide +kernel
theorem dX5_turnPlace_4 : decode cX5_turnPlace 4 = .ok (.iload_n 1, 1) := by decide +kernel
theorem dX5_turnPlace_5 : decode cX5_turnPlace 5 = .ok (.iadd, 1) := by decide +kernel
theorem dX5_turnPlace_6 : decode cX5_turnPlace 6 = .ok (.ireturn, 1) := by decide +kernel
theorem dX5_learn_0 : decode cX5_learn 0 = .ok (.iload_n 1, 1) := by decide +kernel
theorem dX5_learn_1 : decode cX5_learn 1 = .ok (.invokestatic 41, 3) := by decide +kernel
theorem dX5_learn_4 : decode cX5_learn 4 = .ok (.ifCond .eq 12, 3) := by decide +kernel
theorem dX5_learn_7 : decode cX5_learn 7 = .ok (.aload_n 0, 1) := by decide +kernel
theorem dX5_learn_8 : decode cX5_learn 8 = .ok (.getfield 24, 3) := by decide +kernel
theorem dX5_learn_11 : decode cX5_learn 11 = .ok (.iload_n 1, 1) := by decide +kernel
theorem dX5_learn_12 : decode cX5_learn 12 = .ok (.baload, 1) := by decide +kernel
theorem dX5_learn_13 : decode cX5_learn 13 = .ok (.ifCond .eq 4, 3) := by decide +kernel
theorem dX5_learn_16 : decode cX5_learn 16 = .ok (.return_, 1) := by decide +kernel
theorem dX5_learn_17 : decode cX5_learn 17 = .ok (.aload_n 0, 1) := by decide +kernel
theorem dX5_learn_18 : decode cX5_learn 18 = .ok (.getfield 9, 3) := by decide +kernel
theorem dX5_learn_21 : decode cX5_learn 21 = .ok (.iload_n 1, 1) := by decide +kernel
theorem dX5_learn_22 : decode cX5_learn 22 = .ok (.invokevirtual 45, 3) := by decide +kernel
theorem dX5_learn_25 : decode cX5_learn 25 = .ok (.istore_n 2, 1) := by decide +kernel
theorem dX5_learn_26 : decode cX5_learn 26 = .ok (.iload_n 2, 1) := by decide +kernel
theorem dX5_learn_27 : decode cX5_learn 27 = .ok (.aload_n 0, 1) := by decide +kernel
theorem dX5_learn_28 : decode cX5_learn 28 = .ok (.getfield 9, 3) := by decide +kernel
theorem dX5_learn_31 : decode cX5_learn 31 = .ok (.iload_n 1, 1) := by decide +kernel
theorem dX5_learn_32 : decode cX5_learn 32 = .ok (.invokevirtual 49, 3) := by decide +kernel
theorem dX5_learn_35 : decode cX5_learn 35 = .ok (.if_icmp .gt 65, 3) := by decide +kernel
theorem dX5_learn_38 : decode cX5_learn 38 = .ok (.iconst 0, 1) := by decide +kernel
theorem dX5_learn_39 : decode cX5_learn 39 = .ok (.istore_n 3, 1) := by decide +kernel
theorem dX5_learn_40 : decode cX5_learn 40 = .ok (.iload_n 3, 1) := by decide +kernel
theorem dX5_learn_41 : decode cX5_learn 41 = .ok (.iload_n 1, 1) := by decide +kernel
theorem dX5_learn_42 : decode cX5_learn 42 = .ok (.if_icmp .ge 52, 3) := by decide +kernel
theorem dX5_learn_45 : decode cX5_learn 45 = .ok (.aload_n 0, 1) := by decide +kernel
theorem dX5_learn_46 : decode cX5_learn 46 = .ok (.getfield 9, 3) := by decide +kernel
theorem dX5_learn_49 : decode cX5_learn 49 = .ok (.iload_n 2, 1) := by decide +kernel
theorem dX5_learn_50 : decode cX5_learn 50 = .ok (.iload_n 3, 1) := by decide +kernel
theorem dX5_learn_51 : decode cX5_learn 51 = .ok (.invokevirtual 52, 3) := by decide +kernel
theorem dX5_learn_54 : decode cX5_learn 54 = .ok (.istore 4, 2) := by decide +kernel
theorem dX5_learn_56 : decode cX5_learn 56 = .ok (.iload 4, 2) := by decide +kernel
theorem dX5_learn_58 : decode cX5_learn 58 = .ok (.invokestatic 56, 3) := by decide +kernel
theorem dX5_learn_61 : decode cX5_learn 61 = .ok (.ifCond .eq 27, 3) := by decide +kernel
theorem dX5_learn_64 : decode cX5_learn 64 = .ok (.aload_n 0, 1) := by decide +kernel
theorem dX5_learn_65 : decode cX5_learn 65 = .ok (.getfield 17, 3) := by decide +kernel
theorem dX5_learn_68 : decode cX5_learn 68 = .ok (.iload_n 2, 1) := by decide +kernel
theorem dX5_learn_69 : decode cX5_learn 69 = .ok (.iload_n 3, 1) := by decide +kernel
theorem dX5_learn_70 : decode cX5_learn 70 = .ok (.invokestatic 59, 3) := by decide +kernel
theorem dX5_learn_73 : decode cX5_learn 73 = .ok (.iload 4, 2) := by decide +kernel
theorem dX5_learn_75 : decode cX5_learn 75 = .ok (.iastore, 1) := by decide +kernel
theorem dX5_learn_76 : decode cX5_learn 76 = .ok (.aload_n 0, 1) := by decide +kernel
theorem dX5_learn_77 : decode cX5_learn 77 = .ok (.getfield 21, 3) := by decide +kernel
theorem dX5_learn_80 : decode cX5_learn 80 = .ok (.iload 4, 2) := by decide +kernel
theorem dX5_learn_82 : decode cX5_learn 82 = .ok (.iload_n 3, 1) := by decide +kernel
theorem dX5_learn_83 : decode cX5_learn 83 = .ok (.invokestatic 59, 3) := by decide +kernel
theorem dX5_learn_86 : decode cX5_learn 86 = .ok (.iload_n 2, 1) := by decide +kernel
theorem dX5_learn_87 : decode cX5_learn 87 = .ok (.iastore, 1) := by decide +kernel
theorem dX5_learn_88 : decode cX5_learn 88 = .ok (.iinc 3 1, 3) := by decide +kernel
theorem dX5_learn_91 : decode cX5_learn 91 = .ok (.goto (-51), 3) := by decide +kernel
theorem dX5_learn_94 : decode cX5_learn 94 = .ok (.iinc 2 1, 3) := by decide +kernel
theorem dX5_learn_97 : decode cX5_learn 97 = .ok (.goto (-71), 3) := by decide +kernel
theorem dX5_learn_100 : decode cX5_learn 100 = .ok (.aload_n 0, 1) := by decide +kernel
theorem dX5_learn_101 : decode cX5_learn 101 = .ok (.getfield 24, 3) := by decide +kernel
theorem dX5_learn_104 : decode cX5_learn 104 = .ok (.iload_n 1, 1) := by decide +kernel
theorem dX5_learn_105 : decode cX5_learn 105 = .ok (.iconst 1, 1) := by decide +kernel
theorem dX5_learn_106 : decode cX5_learn 106 = .ok (.bastore, 1) := by decide +kernel
theorem dX5_learn_107 : decode cX5_learn 107 = .ok (.return_, 1) := by decide +kernel
theorem dX5_measure_0 : decode cX5_measure 0 = .ok (.iload_n 1, 1) := by decide +kernel
theorem dX5_measure_1 : decode cX5_measure 1 = .ok (.aload_n 0, 1) := by decide +kernel
theorem dX5_measure_2 : decode cX5_measure 2 = .ok (.getfield 37, 3) := by decide +kernel
theorem dX5_measure_5 : decode cX5_measure 5 = .ok (.if_icmp .eq 10, 3) := by decide +kernel
theorem dX5_measure_8 : decode cX5_measure 8 = .ok (.iload_n 1, 1) := by decide +kernel
theorem dX5_measure_9 : decode cX5_measure 9 = .ok (.invokestatic 56, 3) := by decide +kernel
theorem dX5_measure_12 : decode cX5_measure 12 = .ok (.ifCond .ne 4, 3) := by decide +kernel
theorem dX5_measure_15 : decode cX5_measure 15 = .ok (.return_, 1) := by decide +kernel
theorem dX5_measure_16 : decode cX5_measure 16 = .ok (.aload_n 0, 1) := by decide +kernel
theorem dX5_measure_17 : decode cX5_measure 17 = .ok (.getfield 9, 3) := by decide +kernel
theorem dX5_measure_20 : decode cX5_measure 20 = .ok (.iload_n 1, 1) := by decide +kernel
theorem dX5_measure_21 : decode cX5_measure 21 = .ok (.invokevirtual 62, 3) := by decide +kernel
theorem dX5_measure_24 : decode cX5_measure 24 = .ok (.istore_n 2, 1) := by decide +kernel
theorem dX5_measure_25 : decode cX5_measure 25 = .ok (.aload_n 0, 1) := by decide +kernel
theorem dX5_measure_26 : decode cX5_measure 26 = .ok (.iload_n 2, 1) := by decide +kernel
theorem dX5_measure_27 : decode cX5_measure 27 = .ok (.invokevirtual 65, 3) := by decide +kernel
theorem dX5_measure_30 : decode cX5_measure 30 = .ok (.aload_n 0, 1) := by decide +kernel
theorem dX5_measure_31 : decode cX5_measure 31 = .ok (.getfield 28, 3) := by decide +kernel
theorem dX5_measure_34 : decode cX5_measure 34 = .ok (.iconst (-1), 1) := by decide +kernel
theorem dX5_measure_35 : decode cX5_measure 35 = .ok (.invokestatic 69, 3) := by decide +kernel
theorem dX5_measure_38 : decode cX5_measure 38 = .ok (.aload_n 0, 1) := by decide +kernel
theorem dX5_measure_39 : decode cX5_measure 39 = .ok (.iconst 0, 1) := by decide +kernel
theorem dX5_measure_40 : decode cX5_measure 40 = .ok (.putfield 75, 3) := by decide +kernel
theorem dX5_measure_43 : decode cX5_measure 43 = .ok (.aload_n 0, 1) := by decide +kernel
theorem dX5_measure_44 : decode cX5_measure 44 = .ok (.iload_n 1, 1) := by decide +kernel
theorem dX5_measure_45 : decode cX5_measure 45 = .ok (.iconst 0, 1) := by decide +kernel
theorem dX5_measure_46 : decode cX5_measure 46 = .ok (.invokevirtual 78, 3) := by decide +kernel
theorem dX5_measure_49 : decode cX5_measure 49 = .ok (.iconst 0, 1) := by decide +kernel
theorem dX5_measure_50 : decode cX5_measure 50 = .ok (.istore_n 3, 1) := by decide +kernel
theorem dX5_measure_51 : decode cX5_measure 51 = .ok (.iload_n 3, 1) := by decide +kernel
theorem dX5_measure_52 : decode cX5_measure 52 = .ok (.aload_n 0, 1) := by decide +kernel
theorem dX5_measure_53 : decode cX5_measure 53 = .ok (.getfield 75, 3) := by decide +kernel
theorem dX5_measure_56 : decode cX5_measure 56 = .ok (.if_icmp .ge 89, 3) := by decide +kernel
theorem dX5_measure_59 : decode cX5_measure 59 = .ok (.iload_n 3, 1) := by decide +kernel
theorem dX5_measure_60 : decode cX5_measure 60 = .ok (.sipush 429, 3) := by decide +kernel
theorem dX5_measure_63 : decode cX5_measure 63 = .ok (.if_icmp .ge 82, 3) := by decide +kernel
theorem dX5_measure_66 : decode cX5_measure 66 = .ok (.aload_n 0, 1) := by decide +kernel
theorem dX5_measure_67 : decode cX5_measure 67 = .ok (.getfield 31, 3) := by decide +kernel
theorem dX5_measure_70 : decode cX5_measure 70 = .ok (.iload_n 3, 1) := by decide +kernel
theorem dX5_measure_71 : decode cX5_measure 71 = .ok (.iaload, 1) := by decide +kernel
theorem dX5_measure_72 : decode cX5_measure 72 = .ok (.istore 4, 2) := by decide +kernel
theorem dX5_measure_74 : decode cX5_measure 74 = .ok (.iconst 0, 1) := by decide +kernel
theorem dX5_measure_75 : decode cX5_measure 75 = .ok (.istore 5, 2) := by decide +kernel
theorem dX5_measure_77 : decode cX5_measure 77 = .ok (.iload 5, 2) := by decide +kernel
theorem dX5_measure_79 : decode cX5_measure 79 = .ok (.iload_n 2, 1) := by decide +kernel
theorem dX5_measure_80 : decode cX5_measure 80 = .ok (.if_icmp .ge 59, 3) := by decide +kernel
theorem dX5_measure_83 : decode cX5_measure 83 = .ok (.aload_n 0, 1) := by decide +kernel
theorem dX5_measure_84 : decode cX5_measure 84 = .ok (.aload_n 0, 1) := by decide +kernel
theorem dX5_measure_85 : decode cX5_measure 85 = .ok (.getfield 17, 3) := by decide +kernel
theorem dX5_measure_88 : decode cX5_measure 88 = .ok (.iload 4, 2) := by decide +kernel
theorem dX5_measure_90 : decode cX5_measure 90 = .ok (.iload 5, 2) := by decide +kernel
theorem dX5_measure_92 : decode cX5_measure 92 = .ok (.invokestatic 59, 3) := by decide +kernel
theorem dX5_measure_95 : decode cX5_measure 95 = .ok (.iaload, 1) := by decide +kernel
theorem dX5_measure_96 : decode cX5_measure 96 = .ok (.aload_n 0, 1) := by decide +kernel
theorem dX5_measure_97 : decode cX5_measure 97 = .ok (.getfield 28, 3) := by decide +kernel
theorem dX5_measure_100 : decode cX5_measure 100 = .ok (.iload 4, 2) := by decide +kernel
theorem dX5_measure_102 : decode cX5_measure 102 = .ok (.iaload, 1) := by decide +kernel
theorem dX5_measure_103 : decode cX5_measure 103 = .ok (.iconst 1, 1) := by decide +kernel
theorem dX5_measure_104 : decode cX5_measure 104 = .ok (.iadd, 1) := by decide +kernel
theorem dX5_measure_105 : decode cX5_measure 105 = .ok (.invokevirtual 78, 3) := by decide +kernel
theorem dX5_measure_108 : decode cX5_measure 108 = .ok (.aload_n 0, 1) := by decide +kernel
theorem dX5_measure_109 : decode cX5_measure 109 = .ok (.aload_n 0, 1) := by decide +kernel
theorem dX5_measure_110 : decode cX5_measure 110 = .ok (.getfield 21, 3) := by decide +kernel
theorem dX5_measure_113 : decode cX5_measure 113 = .ok (.iload 4, 2) := by decide +kernel
theorem dX5_measure_115 : decode cX5_measure 115 = .ok (.iload 5, 2) := by decide +kernel
theorem dX5_measure_117 : decode cX5_measure 117 = .ok (.invokestatic 59, 3) := by decide +kernel
theorem dX5_measure_120 : decode cX5_measure 120 = .ok (.iaload, 1) := by decide +kernel
theorem dX5_measure_121 : decode cX5_measure 121 = .ok (.aload_n 0, 1) := by decide +kernel
theorem dX5_measure_122 : decode cX5_measure 122 = .ok (.getfield 28, 3) := by decide +kernel
theorem dX5_measure_125 : decode cX5_measure 125 = .ok (.iload 4, 2) := by decide +kernel
theorem dX5_measure_127 : decode cX5_measure 127 = .ok (.iaload, 1) := by decide +kernel
theorem dX5_measure_128 : decode cX5_measure 128 = .ok (.iconst 1, 1) := by decide +kernel
theorem dX5_measure_129 : decode cX5_measure 129 = .ok (.iadd, 1) := by decide +kernel
theorem dX5_measure_130 : decode cX5_measure 130 = .ok (.invokevirtual 78, 3) := by decide +kernel
theorem dX5_measure_133 : decode cX5_measure 133 = .ok (.iinc 5 1, 3) := by decide +kernel
theorem dX5_measure_136 : decode cX5_measure 136 = .ok (.goto (-59), 3) := by decide +kernel
theorem dX5_measure_139 : decode cX5_measure 139 = .ok (.iinc 3 1, 3) := by decide +kernel
theorem dX5_measure_142 : decode cX5_measure 142 = .ok (.goto (-91), 3) := by decide +kernel
theorem dX5_measure_145 : decode cX5_measure 145 = .ok (.aload_n 0, 1) := by decide +kernel
theorem dX5_measure_146 : decode cX5_measure 146 = .ok (.iload_n 1, 1) := by decide +kernel
theorem dX5_measure_147 : decode cX5_measure 147 = .ok (.putfield 37, 3) := by decide +kernel
theorem dX5_measure_150 : decode cX5_measure 150 = .ok (.return_, 1) := by decide +kernel
theorem dX5_reach_0 : decode cX5_reach 0 = .ok (.iload_n 1, 1) := by decide +kernel
theorem dX5_reach_1 : decode cX5_reach 1 = .ok (.invokestatic 56, 3) := by decide +kernel
theorem dX5_reach_4 : decode cX5_reach 4 = .ok (.ifCond .eq 50, 3) := by decide +kernel
theorem dX5_reach_7 : decode cX5_reach 7 = .ok (.aload_n 0, 1) := by decide +kernel
theorem dX5_reach_8 : decode cX5_reach 8 = .ok (.getfield 28, 3) := by decide +kernel
theorem dX5_reach_11 : decode cX5_reach 11 = .ok (.iload_n 1, 1) := by decide +kernel
theorem dX5_reach_12 : decode cX5_reach 12 = .ok (.iaload, 1) := by decide +kernel
theorem dX5_reach_13 : decode cX5_reach 13 = .ok (.iconst (-1), 1) := by decide +kernel
theorem dX5_reach_14 : decode cX5_reach 14 = .ok (.if_icmp .ne 40, 3) := by decide +kernel
theorem dX5_reach_17 : decode cX5_reach 17 = .ok (.aload_n 0, 1) := by decide +kernel
theorem dX5_reach_18 : decode cX5_reach 18 = .ok (.getfield 75, 3) := by decide +kernel
theorem dX5_reach_21 : decode cX5_reach 21 = .ok (.sipush 429, 3) := by decide +kernel
theorem dX5_reach_24 : decode cX5_reach 24 = .ok (.if_icmp .ge 30, 3) := by decide +kernel
theorem dX5_reach_27 : decode cX5_reach 27 = .ok (.aload_n 0, 1) := by decide +kernel
theorem dX5_reach_28 : decode cX5_reach 28 = .ok (.getfield 28, 3) := by decide +kernel
theorem dX5_reach_31 : decode cX5_reach 31 = .ok (.iload_n 1, 1) := by decide +kernel
theorem dX5_reach_32 : decode cX5_reach 32 = .ok (.iload_n 2, 1) := by decide +kernel
theorem dX5_reach_33 : decode cX5_reach 33 = .ok (.iastore, 1) := by decide +kernel
theorem dX5_reach_34 : decode cX5_reach 34 = .ok (.aload_n 0, 1) := by decide +kernel
theorem dX5_reach_35 : decode cX5_reach 35 = .ok (.getfield 31, 3) := by decide +kernel
theorem dX5_reach_38 : decode cX5_reach 38 = .ok (.aload_n 0, 1) := by decide +kernel
theorem dX5_reach_39 : decode cX5_reach 39 = .ok (.getfield 75, 3) := by decide +kernel
theorem dX5_reach_42 : decode cX5_reach 42 = .ok (.iload_n 1, 1) := by decide +kernel
theorem dX5_reach_43 : decode cX5_reach 43 = .ok (.iastore, 1) := by decide +kernel
theorem dX5_reach_44 : decode cX5_reach 44 = .ok (.aload_n 0, 1) := by decide +kernel
theorem dX5_reach_45 : decode cX5_reach 45 = .ok (.dup, 1) := by decide +kernel
theorem dX5_reach_46 : decode cX5_reach 46 = .ok (.getfield 75, 3) := by decide +kernel
theorem dX5_reach_49 : decode cX5_reach 49 = .ok (.iconst 1, 1) := by decide +kernel
theorem dX5_reach_50 : decode cX5_reach 50 = .ok (.iadd, 1) := by decide +kernel
theorem dX5_reach_51 : decode cX5_reach 51 = .ok (.putfield 75, 3) := by decide +kernel
theorem dX5_reach_54 : decode cX5_reach 54 = .ok (.return_, 1) := by decide +kernel
theorem dX5_turnsFrom_0 : decode cX5_turnsFrom 0 = .ok (.iload_n 1, 1) := by decide +kernel
theorem dX5_turnsFrom_1 : decode cX5_turnsFrom 1 = .ok (.invokestatic 56, 3) := by decide +kernel
theorem dX5_turnsFrom_4 : decode cX5_turnsFrom 4 = .ok (.ifCond .eq 12, 3) := by decide +kernel
theorem dX5_turnsFrom_7 : decode cX5_turnsFrom 7 = .ok (.aload_n 0, 1) := by decide +kernel
theorem dX5_turnsFrom_8 : decode cX5_turnsFrom 8 = .ok (.getfield 28, 3) := by decide +kernel
theorem dX5_turnsFrom_11 : decode cX5_turnsFrom 11 = .ok (.iload_n 1, 1) := by decide +kernel
theorem dX5_turnsFrom_12 : decode cX5_turnsFrom 12 = .ok (.iaload, 1) := by decide +kernel
theorem dX5_turnsFrom_13 : decode cX5_turnsFrom 13 = .ok (.goto 4, 3) := by decide +kernel
theorem dX5_turnsFrom_16 : decode cX5_turnsFrom 16 = .ok (.iconst (-1), 1) := by decide +kernel
theorem dX5_turnsFrom_17 : decode cX5_turnsFrom 17 = .ok (.ireturn, 1) := by decide +kernel
theorem dX5_firstTurn_0 : decode cX5_firstTurn 0 = .ok (.iload_n 1, 1) := by decide +kernel
theorem dX5_firstTurn_1 : decode cX5_firstTurn 1 = .ok (.invokestatic 56, 3) := by decide +kernel
theorem dX5_firstTurn_4 : decode cX5_firstTurn 4 = .ok (.ifCond .eq 12, 3) := by decide +kernel
theorem dX5_firstTurn_7 : decode cX5_firstTurn 7 = .ok (.aload_n 0, 1) := by decide +kernel
theorem dX5_firstTurn_8 : decode cX5_firstTurn 8 = .ok (.getfield 28, 3) := by decide +kernel
theorem dX5_firstTurn_11 : decode cX5_firstTurn 11 = .ok (.iload_n 1, 1) := by decide +kernel
theorem dX5_firstTurn_12 : decode cX5_firstTurn 12 = .ok (.iaload, 1) := by decide +kernel
theorem dX5_firstTurn_13 : decode cX5_firstTurn 13 = .ok (.ifCond .gt 6, 3) := by decide +kernel
theorem dX5_firstTurn_16 : decode cX5_firstTurn 16 = .ok (.bipush (-5), 2) := by decide +kernel
theorem dX5_firstTurn_18 : decode cX5_firstTurn 18 = .ok (.ireturn, 1) := by decide +kernel
theorem dX5_firstTurn_19 : decode cX5_firstTurn 19 = .ok (.aload_n 0, 1) := by decide +kernel
theorem dX5_firstTurn_20 : decode cX5_firstTurn 20 = .ok (.getfield 28, 3) := by decide +kernel
theorem dX5_firstTurn_23 : decode cX5_firstTurn 23 = .ok (.iload_n 1, 1) := by decide +kernel
theorem dX5_firstTurn_24 : decode cX5_firstTurn 24 = .ok (.iaload, 1) := by decide +kernel
theorem dX5_firstTurn_25 : decode cX5_firstTurn 25 = .ok (.iconst 1, 1) := by decide +kernel
theorem dX5_firstTurn_26 : decode cX5_firstTurn 26 = .ok (.isub, 1) := by decide +kernel
theorem dX5_firstTurn_27 : decode cX5_firstTurn 27 = .ok (.istore_n 2, 1) := by decide +kernel
theorem dX5_firstTurn_28 : decode cX5_firstTurn 28 = .ok (.aload_n 0, 1) := by decide +kernel
theorem dX5_firstTurn_29 : decode cX5_firstTurn 29 = .ok (.getfield 9, 3) := by decide +kernel
theorem dX5_firstTurn_32 : decode cX5_firstTurn 32 = .ok (.iload_n 1, 1) := by decide +kernel
theorem dX5_firstTurn_33 : decode cX5_firstTurn 33 = .ok (.invokevirtual 62, 3) := by decide +kernel
theorem dX5_firstTurn_36 : decode cX5_firstTurn 36 = .ok (.istore_n 3, 1) := by decide +kernel
theorem dX5_firstTurn_37 : decode cX5_firstTurn 37 = .ok (.iconst 0, 1) := by decide +kernel
theorem dX5_firstTurn_38 : decode cX5_firstTurn 38 = .ok (.istore 4, 2) := by decide +kernel
theorem dX5_firstTurn_40 : decode cX5_firstTurn 40 = .ok (.iload 4, 2) := by decide +kernel
theorem dX5_firstTurn_42 : decode cX5_firstTurn 42 = .ok (.iload_n 3, 1) := by decide +kernel
theorem dX5_firstTurn_43 : decode cX5_firstTurn 43 = .ok (.if_icmp .ge 31, 3) := by decide +kernel
theorem dX5_firstTurn_46 : decode cX5_firstTurn 46 = .ok (.aload_n 0, 1) := by decide +kernel
theorem dX5_firstTurn_47 : decode cX5_firstTurn 47 = .ok (.aload_n 0, 1) := by decide +kernel
theorem dX5_firstTurn_48 : decode cX5_firstTurn 48 = .ok (.getfield 17, 3) := by decide +kernel
theorem dX5_firstTurn_51 : decode cX5_firstTurn 51 = .ok (.iload_n 1, 1) := by decide +kernel
theorem dX5_firstTurn_52 : decode cX5_firstTurn 52 = .ok (.iload 4, 2) := by decide +kernel
theorem dX5_firstTurn_54 : decode cX5_firstTurn 54 = .ok (.invokestatic 59, 3) := by decide +kernel
theorem dX5_firstTurn_57 : decode cX5_firstTurn 57 = .ok (.iaload, 1) := by decide +kernel
theorem dX5_firstTurn_58 : decode cX5_firstTurn 58 = .ok (.invokevirtual 82, 3) := by decide +kernel
theorem dX5_firstTurn_61 : decode cX5_firstTurn 61 = .ok (.iload_n 2, 1) := by decide +kernel
theorem dX5_firstTurn_62 : decode cX5_firstTurn 62 = .ok (.if_icmp .ne 6, 3) := by decide +kernel
theorem dX5_firstTurn_65 : decode cX5_firstTurn 65 = .ok (.iload 4, 2) := by decide +kernel
theorem dX5_firstTurn_67 : decode cX5_firstTurn 67 = .ok (.ireturn, 1) := by decide +kernel
theorem dX5_firstTurn_68 : decode cX5_firstTurn 68 = .ok (.iinc 4 1, 3) := by decide +kernel
theorem dX5_firstTurn_71 : decode cX5_firstTurn 71 = .ok (.goto (-31), 3) := by decide +kernel
theorem dX5_firstTurn_74 : decode cX5_firstTurn 74 = .ok (.iconst 0, 1) := by decide +kernel
theorem dX5_firstTurn_75 : decode cX5_firstTurn 75 = .ok (.istore 4, 2) := by decide +kernel
theorem dX5_firstTurn_77 : decode cX5_firstTurn 77 = .ok (.iload 4, 2) := by decide +kernel
theorem dX5_firstTurn_79 : decode cX5_firstTurn 79 = .ok (.iload_n 3, 1) := by decide +kernel
theorem dX5_firstTurn_80 : decode cX5_firstTurn 80 = .ok (.if_icmp .ge 33, 3) := by decide +kernel
theorem dX5_firstTurn_83 : decode cX5_firstTurn 83 = .ok (.aload_n 0, 1) := by decide +kernel
theorem dX5_firstTurn_84 : decode cX5_firstTurn 84 = .ok (.aload_n 0, 1) := by decide +kernel
theorem dX5_firstTurn_85 : decode cX5_firstTurn 85 = .ok (.getfield 21, 3) := by decide +kernel
theorem dX5_firstTurn_88 : decode cX5_firstTurn 88 = .ok (.iload_n 1, 1) := by decide +kernel
theorem dX5_firstTurn_89 : decode cX5_firstTurn 89 = .ok (.iload 4, 2) := by decide +kernel
theorem dX5_firstTurn_91 : decode cX5_firstTurn 91 = .ok (.invokestatic 59, 3) := by decide +kernel
theorem dX5_firstTurn_94 : decode cX5_firstTurn 94 = .ok (.iaload, 1) := by decide +kernel
theorem dX5_firstTurn_95 : decode cX5_firstTurn 95 = .ok (.invokevirtual 82, 3) := by decide +kernel
theorem dX5_firstTurn_98 : decode cX5_firstTurn 98 = .ok (.iload_n 2, 1) := by decide +kernel
theorem dX5_firstTurn_99 : decode cX5_firstTurn 99 = .ok (.if_icmp .ne 8, 3) := by decide +kernel
theorem dX5_firstTurn_102 : decode cX5_firstTurn 102 = .ok (.iconst (-1), 1) := by decide +kernel
theorem dX5_firstTurn_103 : decode cX5_firstTurn 103 = .ok (.iload 4, 2) := by decide +kernel
theorem dX5_firstTurn_105 : decode cX5_firstTurn 105 = .ok (.isub, 1) := by decide +kernel
theorem dX5_firstTurn_106 : decode cX5_firstTurn 106 = .ok (.ireturn, 1) := by decide +kernel
theorem dX5_firstTurn_107 : decode cX5_firstTurn 107 = .ok (.iinc 4 1, 3) := by decide +kernel
theorem dX5_firstTurn_110 : decode cX5_firstTurn 110 = .ok (.goto (-33), 3) := by decide +kernel
theorem dX5_firstTurn_113 : decode cX5_firstTurn 113 = .ok (.bipush (-5), 2) := by decide +kernel
theorem dX5_firstTurn_115 : decode cX5_firstTurn 115 = .ok (.ireturn, 1) := by decide +kernel
theorem dX5_farthest_0 : decode cX5_farthest 0 = .ok (.iconst 0, 1) := by decide +kernel
theorem dX5_farthest_1 : decode cX5_farthest 1 = .ok (.istore_n 1, 1) := by decide +kernel
theorem dX5_farthest_2 : decode cX5_farthest 2 = .ok (.iconst 0, 1) := by decide +kernel
theorem dX5_farthest_3 : decode cX5_farthest 3 = .ok (.istore_n 2, 1) := by decide +kernel
theorem dX5_farthest_4 : decode cX5_farthest 4 = .ok (.iload_n 2, 1) := by decide +kernel
theorem dX5_farthest_5 : decode cX5_farthest 5 = .ok (.sipush 626, 3) := by decide +kernel
theorem dX5_farthest_8 : decode cX5_farthest 8 = .ok (.if_icmp .ge 20, 3) := by decide +kernel
theorem dX5_farthest_11 : decode cX5_farthest 11 = .ok (.iload_n 1, 1) := by decide +kernel
theorem dX5_farthest_12 : decode cX5_farthest 12 = .ok (.aload_n 0, 1) := by decide +kernel
theorem dX5_farthest_13 : decode cX5_farthest 13 = .ok (.getfield 28, 3) := by decide +kernel
theorem dX5_farthest_16 : decode cX5_farthest 16 = .ok (.iload_n 2, 1) := by decide +kernel
theorem dX5_farthest_17 : decode cX5_farthest 17 = .ok (.iaload, 1) := by decide +kernel
theorem dX5_farthest_18 : decode cX5_farthest 18 = .ok (.invokestatic 85, 3) := by decide +kernel
theorem dX5_farthest_21 : decode cX5_farthest 21 = .ok (.istore_n 1, 1) := by decide +kernel
theorem dX5_farthest_22 : decode cX5_farthest 22 = .ok (.iinc 2 1, 3) := by decide +kernel
theorem dX5_farthest_25 : decode cX5_farthest 25 = .ok (.goto (-21), 3) := by decide +kernel
theorem dX5_farthest_28 : decode cX5_farthest 28 = .ok (.iload_n 1, 1) := by decide +kernel
theorem dX5_farthest_29 : decode cX5_farthest 29 = .ok (.ireturn, 1) := by decide +kernel
theorem dX5_howManyFarthest_0 : decode cX5_howManyFarthest 0 = .ok (.aload_n 0, 1) := by decide +kernel
theorem dX5_howManyFarthest_1 : decode cX5_howManyFarthest 1 = .ok (.invokevirtual 90, 3) := by decide +kernel
theorem dX5_howManyFarthest_4 : decode cX5_howManyFarthest 4 = .ok (.istore_n 1, 1) := by decide +kernel
theorem dX5_howManyFarthest_5 : decode cX5_howManyFarthest 5 = .ok (.iconst 0, 1) := by decide +kernel
theorem dX5_howManyFarthest_6 : decode cX5_howManyFarthest 6 = .ok (.istore_n 2, 1) := by decide +kernel
theorem dX5_howManyFarthest_7 : decode cX5_howManyFarthest 7 = .ok (.iconst 0, 1) := by decide +kernel
theorem dX5_howManyFarthest_8 : decode cX5_howManyFarthest 8 = .ok (.istore_n 3, 1) := by decide +kernel
theorem dX5_howManyFarthest_9 : decode cX5_howManyFarthest 9 = .ok (.iload_n 3, 1) := by decide +kernel
theorem dX5_howManyFarthest_10 : decode cX5_howManyFarthest 10 = .ok (.sipush 626, 3) := by decide +kernel
theorem dX5_howManyFarthest_13 : decode cX5_howManyFarthest 13 = .ok (.if_icmp .ge 22, 3) := by decide +kernel
theorem dX5_howManyFarthest_16 : decode cX5_howManyFarthest 16 = .ok (.aload_n 0, 1) := by decide +kernel
theorem dX5_howManyFarthest_17 : decode cX5_howManyFarthest 17 = .ok (.getfield 28, 3) := by decide +kernel
theorem dX5_howManyFarthest_20 : decode cX5_howManyFarthest 20 = .ok (.iload_n 3, 1) := by decide +kernel
theorem dX5_howManyFarthest_21 : decode cX5_howManyFarthest 21 = .ok (.iaload, 1) := by decide +kernel
theorem dX5_howManyFarthest_22 : decode cX5_howManyFarthest 22 = .ok (.iload_n 1, 1) := by decide +kernel
theorem dX5_howManyFarthest_23 : decode cX5_howManyFarthest 23 = .ok (.if_icmp .ne 6, 3) := by decide +kernel
theorem dX5_howManyFarthest_26 : decode cX5_howManyFarthest 26 = .ok (.iinc 2 1, 3) := by decide +kernel
theorem dX5_howManyFarthest_29 : decode cX5_howManyFarthest 29 = .ok (.iinc 3 1, 3) := by decide +kernel
theorem dX5_howManyFarthest_32 : decode cX5_howManyFarthest 32 = .ok (.goto (-23), 3) := by decide +kernel
theorem dX5_howManyFarthest_35 : decode cX5_howManyFarthest 35 = .ok (.iload_n 2, 1) := by decide +kernel
theorem dX5_howManyFarthest_36 : decode cX5_howManyFarthest 36 = .ok (.ireturn, 1) := by decide +kernel
theorem dX5_leastFarthest_0 : decode cX5_leastFarthest 0 = .ok (.aload_n 0, 1) := by decide +kernel
theorem dX5_leastFarthest_1 : decode cX5_leastFarthest 1 = .ok (.invokevirtual 90, 3) := by decide +kernel
theorem dX5_leastFarthest_4 : decode cX5_leastFarthest 4 = .ok (.istore_n 1, 1) := by decide +kernel
theorem dX5_leastFarthest_5 : decode cX5_leastFarthest 5 = .ok (.iconst 0, 1) := by decide +kernel
theorem dX5_leastFarthest_6 : decode cX5_leastFarthest 6 = .ok (.istore_n 2, 1) := by decide +kernel
theorem dX5_leastFarthest_7 : decode cX5_leastFarthest 7 = .ok (.iload_n 2, 1) := by decide +kernel
theorem dX5_leastFarthest_8 : decode cX5_leastFarthest 8 = .ok (.sipush 626, 3) := by decide +kernel
theorem dX5_leastFarthest_11 : decode cX5_leastFarthest 11 = .ok (.if_icmp .ge 21, 3) := by decide +kernel
theorem dX5_leastFarthest_14 : decode cX5_leastFarthest 14 = .ok (.aload_n 0, 1) := by decide +kernel
theorem dX5_leastFarthest_15 : decode cX5_leastFarthest 15 = .ok (.getfield 28, 3) := by decide +kernel
theorem dX5_leastFarthest_18 : decode cX5_leastFarthest 18 = .ok (.iload_n 2, 1) := by decide +kernel
theorem dX5_leastFarthest_19 : decode cX5_leastFarthest 19 = .ok (.iaload, 1) := by decide +kernel
theorem dX5_leastFarthest_20 : decode cX5_leastFarthest 20 = .ok (.iload_n 1, 1) := by decide +kernel
theorem dX5_leastFarthest_21 : decode cX5_leastFarthest 21 = .ok (.if_icmp .ne 5, 3) := by decide +kernel
theorem dX5_leastFarthest_24 : decode cX5_leastFarthest 24 = .ok (.iload_n 2, 1) := by decide +kernel
theorem dX5_leastFarthest_25 : decode cX5_leastFarthest 25 = .ok (.ireturn, 1) := by decide +kernel
theorem dX5_leastFarthest_26 : decode cX5_leastFarthest 26 = .ok (.iinc 2 1, 3) := by decide +kernel
theorem dX5_leastFarthest_29 : decode cX5_leastFarthest 29 = .ok (.goto (-22), 3) := by decide +kernel
theorem dX5_leastFarthest_32 : decode cX5_leastFarthest 32 = .ok (.iconst 0, 1) := by decide +kernel
theorem dX5_leastFarthest_33 : decode cX5_leastFarthest 33 = .ok (.ireturn, 1) := by decide +kernel
theorem dX5_turnsUpAlone_0 : decode cX5_turnsUpAlone 0 = .ok (.iload_n 1, 1) := by decide +kernel
theorem dX5_turnsUpAlone_1 : decode cX5_turnsUpAlone 1 = .ok (.invokestatic 56, 3) := by decide +kernel
theorem dX5_turnsUpAlone_4 : decode cX5_turnsUpAlone 4 = .ok (.ifCond .eq 10, 3) := by decide +kernel
theorem dX5_turnsUpAlone_7 : decode cX5_turnsUpAlone 7 = .ok (.iload_n 2, 1) := by decide +kernel
theorem dX5_turnsUpAlone_8 : decode cX5_turnsUpAlone 8 = .ok (.invokestatic 56, 3) := by decide +kernel
theorem dX5_turnsUpAlone_11 : decode cX5_turnsUpAlone 11 = .ok (.ifCond .ne 6, 3) := by decide +kernel
theorem dX5_turnsUpAlone_14 : decode cX5_turnsUpAlone 14 = .ok (.bipush (-5), 2) := by decide +kernel
theorem dX5_turnsUpAlone_16 : decode cX5_turnsUpAlone 16 = .ok (.ireturn, 1) := by decide +kernel
theorem dX5_turnsUpAlone_17 : decode cX5_turnsUpAlone 17 = .ok (.aload_n 0, 1) := by decide +kernel
theorem dX5_turnsUpAlone_18 : decode cX5_turnsUpAlone 18 = .ok (.getfield 9, 3) := by decide +kernel
theorem dX5_turnsUpAlone_21 : decode cX5_turnsUpAlone 21 = .ok (.iload_n 1, 1) := by decide +kernel
theorem dX5_turnsUpAlone_22 : decode cX5_turnsUpAlone 22 = .ok (.invokevirtual 62, 3) := by decide +kernel
theorem dX5_turnsUpAlone_25 : decode cX5_turnsUpAlone 25 = .ok (.istore 4, 2) := by decide +kernel
theorem dX5_turnsUpAlone_27 : decode cX5_turnsUpAlone 27 = .ok (.aload_n 0, 1) := by decide +kernel
theorem dX5_turnsUpAlone_28 : decode cX5_turnsUpAlone 28 = .ok (.iload 4, 2) := by decide +kernel
theorem dX5_turnsUpAlone_30 : decode cX5_turnsUpAlone 30 = .ok (.invokevirtual 65, 3) := by decide +kernel
theorem dX5_turnsUpAlone_33 : decode cX5_turnsUpAlone 33 = .ok (.aload_n 0, 1) := by decide +kernel
theorem dX5_turnsUpAlone_34 : decode cX5_turnsUpAlone 34 = .ok (.getfield 34, 3) := by decide +kernel
theorem dX5_turnsUpAlone_37 : decode cX5_turnsUpAlone 37 = .ok (.iconst (-1), 1) := by decide +kernel
theorem dX5_turnsUpAlone_38 : decode cX5_turnsUpAlone 38 = .ok (.invokestatic 69, 3) := by decide +kernel
theorem dX5_turnsUpAlone_41 : decode cX5_turnsUpAlone 41 = .ok (.aload_n 0, 1) := by decide +kernel
theorem dX5_turnsUpAlone_42 : decode cX5_turnsUpAlone 42 = .ok (.getfield 34, 3) := by decide +kernel
theorem dX5_turnsUpAlone_45 : decode cX5_turnsUpAlone 45 = .ok (.iload_n 1, 1) := by decide +kernel
theorem dX5_turnsUpAlone_46 : decode cX5_turnsUpAlone 46 = .ok (.iconst 0, 1) := by decide +kernel
theorem dX5_turnsUpAlone_47 : decode cX5_turnsUpAlone 47 = .ok (.iastore, 1) := by decide +kernel
theorem dX5_turnsUpAlone_48 : decode cX5_turnsUpAlone 48 = .ok (.iload_n 1, 1) := by decide +kernel
theorem dX5_turnsUpAlone_49 : decode cX5_turnsUpAlone 49 = .ok (.istore 5, 2) := by decide +kernel
theorem dX5_turnsUpAlone_51 : decode cX5_turnsUpAlone 51 = .ok (.iload 5, 2) := by decide +kernel
theorem dX5_turnsUpAlone_53 : decode cX5_turnsUpAlone 53 = .ok (.iload_n 2, 1) := by decide +kernel
theorem dX5_turnsUpAlone_54 : decode cX5_turnsUpAlone 54 = .ok (.if_icmp .ge 62, 3) := by decide +kernel
theorem dX5_turnsUpAlone_57 : decode cX5_turnsUpAlone 57 = .ok (.iconst 0, 1) := by decide +kernel
theorem dX5_turnsUpAlone_58 : decode cX5_turnsUpAlone 58 = .ok (.istore 6, 2) := by decide +kernel
theorem dX5_turnsUpAlone_60 : decode cX5_turnsUpAlone 60 = .ok (.iload 6, 2) := by decide +kernel
theorem dX5_turnsUpAlone_62 : decode cX5_turnsUpAlone 62 = .ok (.iload 4, 2) := by decide +kernel
theorem dX5_turnsUpAlone_64 : decode cX5_turnsUpAlone 64 = .ok (.if_icmp .ge 46, 3) := by decide +kernel
theorem dX5_turnsUpAlone_67 : decode cX5_turnsUpAlone 67 = .ok (.aload_n 0, 1) := by decide +kernel
theorem dX5_turnsUpAlone_68 : decode cX5_turnsUpAlone 68 = .ok (.getfield 34, 3) := by decide +kernel
theorem dX5_turnsUpAlone_71 : decode cX5_turnsUpAlone 71 = .ok (.iload 5, 2) := by decide +kernel
theorem dX5_turnsUpAlone_73 : decode cX5_turnsUpAlone 73 = .ok (.iaload, 1) := by decide +kernel
theorem dX5_turnsUpAlone_74 : decode cX5_turnsUpAlone 74 = .ok (.iconst (-1), 1) := by decide +kernel
theorem dX5_turnsUpAlone_75 : decode cX5_turnsUpAlone 75 = .ok (.if_icmp .eq 35, 3) := by decide +kernel
theorem dX5_turnsUpAlone_78 : decode cX5_turnsUpAlone 78 = .ok (.aload_n 0, 1) := by decide +kernel
theorem dX5_turnsUpAlone_79 : decode cX5_turnsUpAlone 79 = .ok (.aload_n 0, 1) := by decide +kernel
theorem dX5_turnsUpAlone_80 : decode cX5_turnsUpAlone 80 = .ok (.getfield 17, 3) := by decide +kernel
theorem dX5_turnsUpAlone_83 : decode cX5_turnsUpAlone 83 = .ok (.iload 5, 2) := by decide +kernel
theorem dX5_turnsUpAlone_85 : decode cX5_turnsUpAlone 85 = .ok (.iload 6, 2) := by decide +kernel
theorem dX5_turnsUpAlone_87 : decode cX5_turnsUpAlone 87 = .ok (.invokestatic 59, 3) := by decide +kernel
theorem dX5_turnsUpAlone_90 : decode cX5_turnsUpAlone 90 = .ok (.iaload, 1) := by decide +kernel
theorem dX5_turnsUpAlone_91 : decode cX5_turnsUpAlone 91 = .ok (.aload_n 0, 1) := by decide +kernel
theorem dX5_turnsUpAlone_92 : decode cX5_turnsUpAlone 92 = .ok (.getfield 34, 3) := by decide +kernel
theorem dX5_turnsUpAlone_95 : decode cX5_turnsUpAlone 95 = .ok (.iload 5, 2) := by decide +kernel
theorem dX5_turnsUpAlone_97 : decode cX5_turnsUpAlone 97 = .ok (.iaload, 1) := by decide +kernel
theorem dX5_turnsUpAlone_98 : decode cX5_turnsUpAlone 98 = .ok (.iconst 1, 1) := by decide +kernel
theorem dX5_turnsUpAlone_99 : decode cX5_turnsUpAlone 99 = .ok (.iadd, 1) := by decide +kernel
theorem dX5_turnsUpAlone_100 : decode cX5_turnsUpAlone 100 = .ok (.iload_n 3, 1) := by decide +kernel
theorem dX5_turnsUpAlone_101 : decode cX5_turnsUpAlone 101 = .ok (.invokevirtual 94, 3) := by decide +kernel
theorem dX5_turnsUpAlone_104 : decode cX5_turnsUpAlone 104 = .ok (.iinc 6 1, 3) := by decide +kernel
theorem dX5_turnsUpAlone_107 : decode cX5_turnsUpAlone 107 = .ok (.goto (-47), 3) := by decide +kernel
theorem dX5_turnsUpAlone_110 : decode cX5_turnsUpAlone 110 = .ok (.iinc 5 1, 3) := by decide +kernel
theorem dX5_turnsUpAlone_113 : decode cX5_turnsUpAlone 113 = .ok (.goto (-62), 3) := by decide +kernel
theorem dX5_turnsUpAlone_116 : decode cX5_turnsUpAlone 116 = .ok (.aload_n 0, 1) := by decide +kernel
theorem dX5_turnsUpAlone_117 : decode cX5_turnsUpAlone 117 = .ok (.getfield 34, 3) := by decide +kernel
theorem dX5_turnsUpAlone_120 : decode cX5_turnsUpAlone 120 = .ok (.iload_n 2, 1) := by decide +kernel
theorem dX5_turnsUpAlone_121 : decode cX5_turnsUpAlone 121 = .ok (.iaload, 1) := by decide +kernel
theorem dX5_turnsUpAlone_122 : decode cX5_turnsUpAlone 122 = .ok (.ireturn, 1) := by decide +kernel
theorem dX5_improve_0 : decode cX5_improve 0 = .ok (.iload_n 1, 1) := by decide +kernel
theorem dX5_improve_1 : decode cX5_improve 1 = .ok (.invokestatic 56, 3) := by decide +kernel
theorem dX5_improve_4 : decode cX5_improve 4 = .ok (.ifCond .ne 4, 3) := by decide +kernel
theorem dX5_improve_7 : decode cX5_improve 7 = .ok (.return_, 1) := by decide +kernel
theorem dX5_improve_8 : decode cX5_improve 8 = .ok (.aload_n 0, 1) := by decide +kernel
theorem dX5_improve_9 : decode cX5_improve 9 = .ok (.getfield 34, 3) := by decide +kernel
theorem dX5_improve_12 : decode cX5_improve 12 = .ok (.iload_n 1, 1) := by decide +kernel
theorem dX5_improve_13 : decode cX5_improve 13 = .ok (.iaload, 1) := by decide +kernel
theorem dX5_improve_14 : decode cX5_improve 14 = .ok (.istore 4, 2) := by decide +kernel
theorem dX5_improve_16 : decode cX5_improve 16 = .ok (.iload 4, 2) := by decide +kernel
theorem dX5_improve_18 : decode cX5_improve 18 = .ok (.iconst (-1), 1) := by decide +kernel
theorem dX5_improve_19 : decode cX5_improve 19 = .ok (.if_icmp .eq 22, 3) := by decide +kernel
theorem dX5_improve_22 : decode cX5_improve 22 = .ok (.iload_n 3, 1) := by decide +kernel
theorem dX5_improve_23 : decode cX5_improve 23 = .ok (.ifCond .eq 12, 3) := by decide +kernel
theorem dX5_improve_26 : decode cX5_improve 26 = .ok (.iload_n 2, 1) := by decide +kernel
theorem dX5_improve_27 : decode cX5_improve 27 = .ok (.iload 4, 2) := by decide +kernel
theorem dX5_improve_29 : decode cX5_improve 29 = .ok (.if_icmp .le 19, 3) := by decide +kernel
theorem dX5_improve_32 : decode cX5_improve 32 = .ok (.goto 9, 3) := by decide +kernel
theorem dX5_improve_35 : decode cX5_improve 35 = .ok (.iload_n 2, 1) := by decide +kernel
theorem dX5_improve_36 : decode cX5_improve 36 = .ok (.iload 4, 2) := by decide +kernel
theorem dX5_improve_38 : decode cX5_improve 38 = .ok (.if_icmp .ge 10, 3) := by decide +kernel
theorem dX5_improve_41 : decode cX5_improve 41 = .ok (.aload_n 0, 1) := by decide +kernel
theorem dX5_improve_42 : decode cX5_improve 42 = .ok (.getfield 34, 3) := by decide +kernel
theorem dX5_improve_45 : decode cX5_improve 45 = .ok (.iload_n 1, 1) := by decide +kernel
theorem dX5_improve_46 : decode cX5_improve 46 = .ok (.iload_n 2, 1) := by decide +kernel
theorem dX5_improve_47 : decode cX5_improve 47 = .ok (.iastore, 1) := by decide +kernel
theorem dX5_improve_48 : decode cX5_improve 48 = .ok (.return_, 1) := by decide +kernel
theorem dX6_init_0 : decode cX6_init 0 = .ok (.aload_n 0, 1) := by decide +kernel
theorem dX6_init_1 : decode cX6_init 1 = .ok (.invokespecial 3, 3) := by decide +kernel
theorem dX6_init_4 : decode cX6_init 4 = .ok (.aload_n 0, 1) := by decide +kernel
theorem dX6_init_5 : decode cX6_init 5 = .ok (.new 9, 3) := by decide +kernel
theorem dX6_init_8 : decode cX6_init 8 = .ok (.dup, 1) := by decide +kernel
theorem dX6_init_9 : decode cX6_init 9 = .ok (.invokespecial 11, 3) := by decide +kernel
theorem dX6_init_12 : decode cX6_init 12 = .ok (.putfield 12, 3) := by decide +kernel
theorem dX6_init_15 : decode cX6_init 15 = .ok (.aload_n 0, 1) := by decide +kernel
theorem dX6_init_16 : decode cX6_init 16 = .ok (.new 18, 3) := by decide +kernel
theorem dX6_init_19 : decode cX6_init 19 = .ok (.dup, 1) := by decide +kernel
theorem dX6_init_20 : decode cX6_init 20 = .ok (.aload_n 0, 1) := by decide +kernel
theorem dX6_init_21 : decode cX6_init 21 = .ok (.getfield 12, 3) := by decide +kernel
theorem dX6_init_24 : decode cX6_init 24 = .ok (.invokespecial 20, 3) := by decide +kernel
theorem dX6_init_27 : decode cX6_init 27 = .ok (.putfield 23, 3) := by decide +kernel
theorem dX6_init_30 : decode cX6_init 30 = .ok (.aload_n 0, 1) := by decide +kernel
theorem dX6_init_31 : decode cX6_init 31 = .ok (.new 27, 3) := by decide +kernel
theorem dX6_init_34 : decode cX6_init 34 = .ok (.dup, 1) := by decide +kernel
theorem dX6_init_35 : decode cX6_init 35 = .ok (.aload_n 0, 1) := by decide +kernel
theorem dX6_init_36 : decode cX6_init 36 = .ok (.getfield 12, 3) := by decide +kernel
theorem dX6_init_39 : decode cX6_init 39 = .ok (.invokespecial 29, 3) := by decide +kernel
theorem dX6_init_42 : decode cX6_init 42 = .ok (.putfield 30, 3) := by decide +kernel
theorem dX6_init_45 : decode cX6_init 45 = .ok (.aload_n 0, 1) := by decide +kernel
theorem dX6_init_46 : decode cX6_init 46 = .ok (.new 34, 3) := by decide +kernel
theorem dX6_init_49 : decode cX6_init 49 = .ok (.dup, 1) := by decide +kernel
theorem dX6_init_50 : decode cX6_init 50 = .ok (.invokespecial 36, 3) := by decide +kernel
theorem dX6_init_53 : decode cX6_init 53 = .ok (.putfield 37, 3) := by decide +kernel
theorem dX6_init_56 : decode cX6_init 56 = .ok (.aload_n 0, 1) := by decide +kernel
theorem dX6_init_57 : decode cX6_init 57 = .ok (.new 41, 3) := by decide +kernel
theorem dX6_init_60 : decode cX6_init 60 = .ok (.dup, 1) := by decide +kernel
theorem dX6_init_61 : decode cX6_init 61 = .ok (.invokespecial 43, 3) := by decide +kernel
theorem dX6_init_64 : decode cX6_init 64 = .ok (.putfield 44, 3) := by decide +kernel
theorem dX6_init_67 : decode cX6_init 67 = .ok (.aload_n 0, 1) := by decide +kernel
theorem dX6_init_68 : decode cX6_init 68 = .ok (.new 48, 3) := by decide +kernel
theorem dX6_init_71 : decode cX6_init 71 = .ok (.dup, 1) := by decide +kernel
theorem dX6_init_72 : decode cX6_init 72 = .ok (.invokespecial 50, 3) := by decide +kernel
theorem dX6_init_75 : decode cX6_init 75 = .ok (.putfield 51, 3) := by decide +kernel
theorem dX6_init_78 : decode cX6_init 78 = .ok (.aload_n 0, 1) := by decide +kernel
theorem dX6_init_79 : decode cX6_init 79 = .ok (.iconst 4, 1) := by decide +kernel
theorem dX6_init_80 : decode cX6_init 80 = .ok (.newarray .int, 2) := by decide +kernel
theorem dX6_init_82 : decode cX6_init 82 = .ok (.putfield 55, 3) := by decide +kernel
theorem dX6_init_85 : decode cX6_init 85 = .ok (.aload_n 0, 1) := by decide +kernel
theorem dX6_init_86 : decode cX6_init 86 = .ok (.iconst 4, 1) := by decide +kernel
theorem dX6_init_87 : decode cX6_init 87 = .ok (.newarray .int, 2) := by decide +kernel
theorem dX6_init_89 : decode cX6_init 89 = .ok (.putfield 59, 3) := by decide +kernel
theorem dX6_init_92 : decode cX6_init 92 = .ok (.aload_n 0, 1) := by decide +kernel
theorem dX6_init_93 : decode cX6_init 93 = .ok (.iconst 0, 1) := by decide +kernel
theorem dX6_init_94 : decode cX6_init 94 = .ok (.putfield 62, 3) := by decide +kernel
theorem dX6_init_97 : decode cX6_init 97 = .ok (.aload_n 0, 1) := by decide +kernel
theorem dX6_init_98 : decode cX6_init 98 = .ok (.aload_n 0, 1) := by decide +kernel
theorem dX6_init_99 : decode cX6_init 99 = .ok (.getfield 12, 3) := by decide +kernel
theorem dX6_init_102 : decode cX6_init 102 = .ok (.iconst 3, 1) := by decide +kernel
theorem dX6_init_103 : decode cX6_init 103 = .ok (.invokevirtual 66, 3) := by decide +kernel
theorem dX6_init_106 : decode cX6_init 106 = .ok (.putfield 70, 3) := by decide +kernel
theorem dX6_init_109 : decode cX6_init 109 = .ok (.return_, 1) := by decide +kernel
theorem dX6_nodes_0 : decode cX6_nodes 0 = .ok (.iload_n 1, 1) := by decide +kernel
theorem dX6_nodes_1 : decode cX6_nodes 1 = .ok (.invokestatic 73, 3) := by decide +kernel
theorem dX6_nodes_4 : decode cX6_nodes 4 = .ok (.ifCond .ne 6, 3) := by decide +kernel
theorem dX6_nodes_7 : decode cX6_nodes 7 = .ok (.bipush (-2), 2) := by decide +kernel
theorem dX6_nodes_9 : decode cX6_nodes 9 = .ok (.ireturn, 1) := by decide +kernel
theorem dX6_nodes_10 : decode cX6_nodes 10 = .ok (.aload_n 0, 1) := by decide +kernel
theorem dX6_nodes_11 : decode cX6_nodes 11 = .ok (.invokevirtual 77, 3) := by decide +kernel
theorem dX6_nodes_14 : decode cX6_nodes 14 = .ok (.istore_n 2, 1) := by decide +kernel
theorem dX6_nodes_15 : decode cX6_nodes 15 = .ok (.aload_n 0, 1) := by decide +kernel
theorem dX6_nodes_16 : decode cX6_nodes 16 = .ok (.aload_n 0, 1) := by decide +kernel
theorem dX6_nodes_17 : decode cX6_nodes 17 = .ok (.getfield 12, 3) := by decide +kernel
theorem dX6_nodes_20 : decode cX6_nodes 20 = .ok (.iload_n 1, 1) := by decide +kernel
theorem dX6_nodes_21 : decode cX6_nodes 21 = .ok (.invokevirtual 66, 3) := by decide +kernel
theorem dX6_nodes_24 : decode cX6_nodes 24 = .ok (.putfield 70, 3) := by decide +kernel
theorem dX6_nodes_27 : decode cX6_nodes 27 = .ok (.aload_n 0, 1) := by decide +kernel
theorem dX6_nodes_28 : decode cX6_nodes 28 = .ok (.getfield 37, 3) := by decide +kernel
theorem dX6_nodes_31 : decode cX6_nodes 31 = .ok (.invokevirtual 81, 3) := by decide +kernel
theorem dX6_nodes_34 : decode cX6_nodes 34 = .ok (.iload_n 2, 1) := by decide +kernel
theorem dX6_nodes_35 : decode cX6_nodes 35 = .ok (.ireturn, 1) := by decide +kernel
theorem dX6_row_0 : decode cX6_row 0 = .ok (.aload_n 0, 1) := by decide +kernel
theorem dX6_row_1 : decode cX6_row 1 = .ok (.getfield 12, 3) := by decide +kernel
theorem dX6_row_4 : decode cX6_row 4 = .ok (.aload_n 0, 1) := by decide +kernel
theorem dX6_row_5 : decode cX6_row 5 = .ok (.invokevirtual 77, 3) := by decide +kernel
theorem dX6_row_8 : decode cX6_row 8 = .ok (.iload_n 1, 1) := by decide +kernel
theorem dX6_row_9 : decode cX6_row 9 = .ok (.invokevirtual 84, 3) := by decide +kernel
theorem dX6_row_12 : decode cX6_row 12 = .ok (.istore_n 2, 1) := by decide +kernel
theorem dX6_row_13 : decode cX6_row 13 = .ok (.iload_n 2, 1) := by decide +kernel
theorem dX6_row_14 : decode cX6_row 14 = .ok (.ifCond .ne 6, 3) := by decide +kernel
theorem dX6_row_17 : decode cX6_row 17 = .ok (.bipush (-2), 2) := by decide +kernel
theorem dX6_row_19 : decode cX6_row 19 = .ok (.ireturn, 1) := by decide +kernel
theorem dX6_row_20 : decode cX6_row 20 = .ok (.aload_n 0, 1) := by decide +kernel
theorem dX6_row_21 : decode cX6_row 21 = .ok (.iload_n 2, 1) := by decide +kernel
theorem dX6_row_22 : decode cX6_row 22 = .ok (.invokevirtual 88, 3) := by decide +kernel
theorem dX6_row_25 : decode cX6_row 25 = .ok (.ireturn, 1) := by decide +kernel
theorem dX6_of_0 : decode cX6_of 0 = .ok (.aload_n 0, 1) := by decide +kernel
theorem dX6_of_1 : decode cX6_of 1 = .ok (.iload_n 1, 1) := by decide +kernel
theorem dX6_of_2 : decode cX6_of 2 = .ok (.invokevirtual 91, 3) := by decide +kernel
theorem dX6_of_5 : decode cX6_of 5 = .ok (.ifCond .ne 5, 3) := by decide +kernel
theorem dX6_of_8 : decode cX6_of 8 = .ok (.iconst (-1), 1) := by decide +kernel
theorem dX6_of_9 : decode cX6_of 9 = .ok (.ireturn, 1) := by decide +kernel
theorem dX6_of_10 : decode cX6_of 10 = .ok (.iload_n 2, 1) := by decide +kernel
theorem dX6_of_11 : decode cX6_of 11 = .ok (.tableswitch 115 0 5 #[37, 50, 63, 76, 89, 102], 37) := by decide +kernel
theorem dX6_of_48 : decode cX6_of 48 = .ok (.aload_n 0, 1) := by decide +kernel
theorem dX6_of_49 : decode cX6_of 49 = .ok (.getfield 12, 3) := by decide +kernel
theorem dX6_of_52 : decode cX6_of 52 = .ok (.aload_n 0, 1) := by decide +kernel
theorem dX6_of_53 : decode cX6_of 53 = .ok (.getfield 70, 3) := by decide +kernel
theorem dX6_of_56 : decode cX6_of 56 = .ok (.iload_n 1, 1) := by decide +kernel
theorem dX6_of_57 : decode cX6_of 57 = .ok (.invokevirtual 94, 3) := by decide +kernel
theorem dX6_of_60 : decode cX6_of 60 = .ok (.ireturn, 1) := by decide +kernel
theorem dX6_of_61 : decode cX6_of 61 = .ok (.aload_n 0, 1) := by decide +kernel
theorem dX6_of_62 : decode cX6_of 62 = .ok (.getfield 12, 3) := by decide +kernel
theorem dX6_of_65 : decode cX6_of 65 = .ok (.aload_n 0, 1) := by decide +kernel
theorem dX6_of_66 : decode cX6_of 66 = .ok (.getfield 70, 3) := by decide +kernel
theorem dX6_of_69 : decode cX6_of 69 = .ok (.iload_n 1, 1) := by decide +kernel
theorem dX6_of_70 : decode cX6_of 70 = .ok (.invokevirtual 97, 3) := by decide +kernel
theorem dX6_of_73 : decode cX6_of 73 = .ok (.ireturn, 1) := by decide +kernel
theorem dX6_of_74 : decode cX6_of 74 = .ok (.aload_n 0, 1) := by decide +kernel
theorem dX6_of_75 : decode cX6_of 75 = .ok (.getfield 12, 3) := by decide +kernel
theorem dX6_of_78 : decode cX6_of 78 = .ok (.aload_n 0, 1) := by decide +kernel
theorem dX6_of_79 : decode cX6_of 79 = .ok (.getfield 70, 3) := by decide +kernel
theorem dX6_of_82 : decode cX6_of 82 = .ok (.iload_n 1, 1) := by decide +kernel
theorem dX6_of_83 : decode cX6_of 83 = .ok (.invokevirtual 100, 3) := by decide +kernel
theorem dX6_of_86 : decode cX6_of 86 = .ok (.ireturn, 1) := by decide +kernel
theorem dX6_of_87 : decode cX6_of 87 = .ok (.aload_n 0, 1) := by decide +kernel
theorem dX6_of_88 : decode cX6_of 88 = .ok (.getfield 12, 3) := by decide +kernel
theorem dX6_of_91 : decode cX6_of 91 = .ok (.aload_n 0, 1) := by decide +kernel
theorem dX6_of_92 : decode cX6_of 92 = .ok (.getfield 70, 3) := by decide +kernel
theorem dX6_of_95 : decode cX6_of 95 = .ok (.iload_n 1, 1) := by decide +kernel
theorem dX6_of_96 : decode cX6_of 96 = .ok (.invokevirtual 103, 3) := by decide +kernel
theorem dX6_of_99 : decode cX6_of 99 = .ok (.ireturn, 1) := by decide +kernel
theorem dX6_of_100 : decode cX6_of 100 = .ok (.aload_n 0, 1) := by decide +kernel
theorem dX6_of_101 : decode cX6_of 101 = .ok (.getfield 12, 3) := by decide +kernel
theorem dX6_of_104 : decode cX6_of 104 = .ok (.aload_n 0, 1) := by decide +kernel
theorem dX6_of_105 : decode cX6_of 105 = .ok (.getfield 70, 3) := by decide +kernel
theorem dX6_of_108 : decode cX6_of 108 = .ok (.iload_n 1, 1) := by decide +kernel
theorem dX6_of_109 : decode cX6_of 109 = .ok (.invokevirtual 106, 3) := by decide +kernel
theorem dX6_of_112 : decode cX6_of 112 = .ok (.ireturn, 1) := by decide +kernel
theorem dX6_of_113 : decode cX6_of 113 = .ok (.aload_n 0, 1) := by decide +kernel
theorem dX6_of_114 : decode cX6_of 114 = .ok (.getfield 12, 3) := by decide +kernel
theorem dX6_of_117 : decode cX6_of 117 = .ok (.aload_n 0, 1) := by decide +kernel
theorem dX6_of_118 : decode cX6_of 118 = .ok (.getfield 70, 3) := by decide +kernel
theorem dX6_of_121 : decode cX6_of 121 = .ok (.iload_n 1, 1) := by decide +kernel
theorem dX6_of_122 : decode cX6_of 122 = .ok (.invokevirtual 109, 3) := by decide +kernel
theorem dX6_of_125 : decode cX6_of 125 = .ok (.ireturn, 1) := by decide +kernel
theorem dX6_of_126 : decode cX6_of 126 = .ok (.iconst (-1), 1) := by decide +kernel
theorem dX6_of_127 : decode cX6_of 127 = .ok (.ireturn, 1) := by decide +kernel
theorem dX6_number_0 : decode cX6_number 0 = .ok (.iload_n 1, 1) := by decide +kernel
theorem dX6_number_1 : decode cX6_number 1 = .ok (.ifCond .lt 18, 3) := by decide +kernel
theorem dX6_number_4 : decode cX6_number 4 = .ok (.iload_n 1, 1) := by decide +kernel
theorem dX6_number_5 : decode cX6_number 5 = .ok (.aload_n 0, 1) := by decide +kernel
theorem dX6_number_6 : decode cX6_number 6 = .ok (.getfield 12, 3) := by decide +kernel
theorem dX6_number_9 : decode cX6_number 9 = .ok (.aload_n 0, 1) := by decide +kernel
theorem dX6_number_10 : decode cX6_number 10 = .ok (.invokevirtual 77, 3) := by decide +kernel
theorem dX6_number_13 : decode cX6_number 13 = .ok (.invokevirtual 112, 3) := by decide +kernel
theorem dX6_number_16 : decode cX6_number 16 = .ok (.if_icmp .lt 5, 3) := by decide +kernel
theorem dX6_number_19 : decode cX6_number 19 = .ok (.iconst (-1), 1) := by decide +kernel
theorem dX6_number_20 : decode cX6_number 20 = .ok (.ireturn, 1) := by decide +kernel
theorem dX6_number_21 : decode cX6_number 21 = .ok (.aload_n 0, 1) := by decide +kernel
theorem dX6_number_22 : decode cX6_number 22 = .ok (.getfield 12, 3) := by decide +kernel
theorem dX6_number_25 : decode cX6_number 25 = .ok (.aload_n 0, 1) := by decide +kernel
theorem dX6_number_26 : decode cX6_number 26 = .ok (.getfield 70, 3) := by decide +kernel
theorem dX6_number_29 : decode cX6_number 29 = .ok (.invokevirtual 115, 3) := by decide +kernel
theorem dX6_number_32 : decode cX6_number 32 = .ok (.istore_n 2, 1) := by decide +kernel
theorem dX6_number_33 : decode cX6_number 33 = .ok (.aload_n 0, 1) := by decide +kernel
theorem dX6_number_34 : decode cX6_number 34 = .ok (.aload_n 0, 1) := by decide +kernel
theorem dX6_number_35 : decode cX6_number 35 = .ok (.getfield 12, 3) := by decide +kernel
theorem dX6_number_38 : decode cX6_number 38 = .ok (.aload_n 0, 1) := by decide +kernel
theorem dX6_number_39 : decode cX6_number 39 = .ok (.invokevirtual 77, 3) := by decide +kernel
theorem dX6_number_42 : decode cX6_number 42 = .ok (.invokevirtual 66, 3) := by decide +kernel
theorem dX6_number_45 : decode cX6_number 45 = .ok (.iload_n 1, 1) := by decide +kernel
theorem dX6_number_46 : decode cX6_number 46 = .ok (.iadd, 1) := by decide +kernel
theorem dX6_number_47 : decode cX6_number 47 = .ok (.invokevirtual 118, 3) := by decide +kernel
theorem dX6_number_50 : decode cX6_number 50 = .ok (.iload_n 2, 1) := by decide +kernel
theorem dX6_number_51 : decode cX6_number 51 = .ok (.ireturn, 1) := by decide +kernel
theorem dX6_which_0 : decode cX6_which 0 = .ok (.aload_n 0, 1) := by decide +kernel
theorem dX6_which_1 : decode cX6_which 1 = .ok (.getfield 12, 3) := by decide +kernel
theorem dX6_which_4 : decode cX6_which 4 = .ok (.aload_n 0, 1) := by decide +kernel
theorem dX6_which_5 : decode cX6_which 5 = .ok (.getfield 70, 3) := by decide +kernel
theorem dX6_which_8 : decode cX6_which 8 = .ok (.invokevirtual 115, 3) := by decide +kernel
theorem dX6_which_11 : decode cX6_which 11 = .ok (.ireturn, 1) := by decide +kernel
theorem dX6_many_0 : decode cX6_many 0 = .ok (.iload_n 1, 1) := by decide +kernel
theorem dX6_many_1 : decode cX6_many 1 = .ok (.invokestatic 73, 3) := by decide +kernel
theorem dX6_many_4 : decode cX6_many 4 = .ok (.ifCond .eq 14, 3) := by decide +kernel
theorem dX6_many_7 : decode cX6_many 7 = .ok (.aload_n 0, 1) := by decide +kernel
theorem dX6_many_8 : decode cX6_many 8 = .ok (.getfield 12, 3) := by decide +kernel
theorem dX6_many_11 : decode cX6_many 11 = .ok (.iload_n 1, 1) := by decide +kernel
theorem dX6_many_12 : decode cX6_many 12 = .ok (.invokevirtual 112, 3) := by decide +kernel
theorem dX6_many_15 : decode cX6_many 15 = .ok (.goto 5, 3) := by decide +kernel
theorem dX6_many_18 : decode cX6_many 18 = .ok (.bipush (-2), 2) := by decide +kernel
theorem dX6_many_20 : decode cX6_many 20 = .ok (.ireturn, 1) := by decide +kernel
theorem dX6_digits_0 : decode cX6_digits 0 = .ok (.aload_n 0, 1) := by decide +kernel
theorem dX6_digits_1 : decode cX6_digits 1 = .ok (.getfield 12, 3) := by decide +kernel
theorem dX6_digits_4 : decode cX6_digits 4 = .ok (.aload_n 0, 1) := by decide +kernel
theorem dX6_digits_5 : decode cX6_digits 5 = .ok (.getfield 70, 3) := by decide +kernel
theorem dX6_digits_8 : decode cX6_digits 8 = .ok (.invokevirtual 122, 3) := by decide +kernel
theorem dX6_digits_11 : decode cX6_digits 11 = .ok (.ireturn, 1) := by decide +kernel
theorem dX6_turn_0 : decode cX6_turn 0 = .ok (.aload_n 0, 1) := by decide +kernel
theorem dX6_turn_1 : decode cX6_turn 1 = .ok (.iload_n 1, 1) := by decide +kernel
theorem dX6_turn_2 : decode cX6_turn 2 = .ok (.invokevirtual 91, 3) := by decide +kernel
theorem dX6_turn_5 : decode cX6_turn 5 = .ok (.ifCond .ne 5, 3) := by decide +kernel
theorem dX6_turn_8 : decode cX6_turn 8 = .ok (.iconst (-1), 1) := by decide +kernel
theorem dX6_turn_9 : decode cX6_turn 9 = .ok (.ireturn, 1) := by decide +kernel
theorem dX6_turn_10 : decode cX6_turn 10 = .ok (.aload_n 0, 1) := by decide +kernel
theorem dX6_turn_11 : decode cX6_turn 11 = .ok (.getfield 12, 3) := by decide +kernel
theorem dX6_turn_14 : decode cX6_turn 14 = .ok (.aload_n 0, 1) := by decide +kernel
theorem dX6_turn_15 : decode cX6_turn 15 = .ok (.getfield 70, 3) := by decide +kernel
theorem dX6_turn_18 : decode cX6_turn 18 = .ok (.iload_n 1, 1) := by decide +kernel
theorem dX6_turn_19 : decode cX6_turn 19 = .ok (.invokevirtual 125, 3) := by decide +kernel
theorem dX6_turn_22 : decode cX6_turn 22 = .ok (.istore_n 2, 1) := by decide +kernel
theorem dX6_turn_23 : decode cX6_turn 23 = .ok (.iload_n 2, 1) := by decide +kernel
theorem dX6_turn_24 : decode cX6_turn 24 = .ok (.ifCond .ne 8, 3) := by decide +kernel
theorem dX6_turn_27 : decode cX6_turn 27 = .ok (.bipush (-5), 2) := by decide +kernel
theorem dX6_turn_29 : decode cX6_turn 29 = .ok (.goto 8, 3) := by decide +kernel
theorem dX6_turn_32 : decode cX6_turn 32 = .ok (.aload_n 0, 1) := by decide +kernel
theorem dX6_turn_33 : decode cX6_turn 33 = .ok (.iload_n 2, 1) := by decide +kernel
theorem dX6_turn_34 : decode cX6_turn 34 = .ok (.invokevirtual 88, 3) := by decide +kernel
theorem dX6_turn_37 : decode cX6_turn 37 = .ok (.ireturn, 1) := by decide +kernel
theorem dX6_back_0 : decode cX6_back 0 = .ok (.aload_n 0, 1) := by decide +kernel
theorem dX6_back_1 : decode cX6_back 1 = .ok (.iload_n 1, 1) := by decide +kernel
theorem dX6_back_2 : decode cX6_back 2 = .ok (.invokevirtual 91, 3) := by decide +kernel
theorem dX6_back_5 : decode cX6_back 5 = .ok (.ifCond .ne 5, 3) := by decide +kernel
theorem dX6_back_8 : decode cX6_back 8 = .ok (.iconst (-1), 1) := by decide +kernel
theorem dX6_back_9 : decode cX6_back 9 = .ok (.ireturn, 1) := by decide +kernel
theorem dX6_back_10 : decode cX6_back 10 = .ok (.aload_n 0, 1) := by decide +kernel
theorem dX6_back_11 : decode cX6_back 11 = .ok (.getfield 12, 3) := by decide +kernel
theorem dX6_back_14 : decode cX6_back 14 = .ok (.aload_n 0, 1) := by decide +kernel
theorem dX6_back_15 : decode cX6_back 15 = .ok (.getfield 70, 3) := by decide +kernel
theorem dX6_back_18 : decode cX6_back 18 = .ok (.iload_n 1, 1) := by decide +kernel
theorem dX6_back_19 : decode cX6_back 19 = .ok (.invokevirtual 128, 3) := by decide +kernel
theorem dX6_back_22 : decode cX6_back 22 = .ok (.istore_n 2, 1) := by decide +kernel
theorem dX6_back_23 : decode cX6_back 23 = .ok (.iload_n 2, 1) := by decide +kernel
theorem dX6_back_24 : decode cX6_back 24 = .ok (.ifCond .ne 8, 3) := by decide +kernel
theorem dX6_back_27 : decode cX6_back 27 = .ok (.bipush (-5), 2) := by decide +kernel
theorem dX6_back_29 : decode cX6_back 29 = .ok (.goto 8, 3) := by decide +kernel
theorem dX6_back_32 : decode cX6_back 32 = .ok (.aload_n 0, 1) := by decide +kernel
theorem dX6_back_33 : decode cX6_back 33 = .ok (.iload_n 2, 1) := by decide +kernel
theorem dX6_back_34 : decode cX6_back 34 = .ok (.invokevirtual 88, 3) := by decide +kernel
theorem dX6_back_37 : decode cX6_back 37 = .ok (.ireturn, 1) := by decide +kernel
theorem dX6_mayTurn_0 : decode cX6_mayTurn 0 = .ok (.iload_n 1, 1) := by decide +kernel
theorem dX6_mayTurn_1 : decode cX6_mayTurn 1 = .ok (.tableswitch 85 0 3 #[31, 46, 61, 73], 31) := by decide +kernel
theorem dX6_mayTurn_32 : decode cX6_mayTurn 32 = .ok (.aload_n 0, 1) := by decide +kernel
theorem dX6_mayTurn_33 : decode cX6_mayTurn 33 = .ok (.getfield 12, 3) := by decide +kernel
theorem dX6_mayTurn_36 : decode cX6_mayTurn 36 = .ok (.aload_n 0, 1) := by decide +kernel
theorem dX6_mayTurn_37 : decode cX6_mayTurn 37 = .ok (.getfield 70, 3) := by decide +kernel
theorem dX6_mayTurn_40 : decode cX6_mayTurn 40 = .ok (.invokevirtual 131, 3) := by decide +kernel
theorem dX6_mayTurn_43 : decode cX6_mayTurn 43 = .ok (.invokestatic 134, 3) := by decide +kernel
theorem dX6_mayTurn_46 : decode cX6_mayTurn 46 = .ok (.ireturn, 1) := by decide +kernel
theorem dX6_mayTurn_47 : decode cX6_mayTurn 47 = .ok (.aload_n 0, 1) := by decide +kernel
theorem dX6_mayTurn_48 : decode cX6_mayTurn 48 = .ok (.getfield 12, 3) := by decide +kernel
theorem dX6_mayTurn_51 : decode cX6_mayTurn 51 = .ok (.aload_n 0, 1) := by decide +kernel
theorem dX6_mayTurn_52 : decode cX6_mayTurn 52 = .ok (.getfield 70, 3) := by decide +kernel
theorem dX6_mayTurn_55 : decode cX6_mayTurn 55 = .ok (.invokevirtual 139, 3) := by decide +kernel
theorem dX6_mayTurn_58 : decode cX6_mayTurn 58 = .ok (.invokestatic 134, 3) := by decide +kernel
theorem dX6_mayTurn_61 : decode cX6_mayTurn 61 = .ok (.ireturn, 1) := by decide +kernel
theorem dX6_mayTurn_62 : decode cX6_mayTurn 62 = .ok (.aload_n 0, 1) := by decide +kernel
theorem dX6_mayTurn_63 : decode cX6_mayTurn 63 = .ok (.getfield 12, 3) := by decide +kernel
theorem dX6_mayTurn_66 : decode cX6_mayTurn 66 = .ok (.aload_n 0, 1) := by decide +kernel
theorem dX6_mayTurn_67 : decode cX6_mayTurn 67 = .ok (.getfield 70, 3) := by decide +kernel
theorem dX6_mayTurn_70 : decode cX6_mayTurn 70 = .ok (.invokevirtual 131, 3) := by decide +kernel
theorem dX6_mayTurn_73 : decode cX6_mayTurn 73 = .ok (.ireturn, 1) := by decide +kernel
theorem dX6_mayTurn_74 : decode cX6_mayTurn 74 = .ok (.aload_n 0, 1) := by decide +kernel
theorem dX6_mayTurn_75 : decode cX6_mayTurn 75 = .ok (.getfield 12, 3) := by decide +kernel
theorem dX6_mayTurn_78 : decode cX6_mayTurn 78 = .ok (.aload_n 0, 1) := by decide +kernel
theorem dX6_mayTurn_79 : decode cX6_mayTurn 79 = .ok (.getfield 70, 3) := by decide +kernel
theorem dX6_mayTurn_82 : decode cX6_mayTurn 82 = .ok (.invokevirtual 139, 3) := by decide +kernel
theorem dX6_mayTurn_85 : decode cX6_mayTurn 85 = .ok (.ireturn, 1) := by decide +kernel
theorem dX6_mayTurn_86 : decode cX6_mayTurn 86 = .ok (.iconst (-1), 1) := by decide +kernel
theorem dX6_mayTurn_87 : decode cX6_mayTurn 87 = .ok (.ireturn, 1) := by decide +kernel
theorem dX6_mirror_0 : decode cX6_mirror 0 = .ok (.aload_n 0, 1) := by decide +kernel
theorem dX6_mirror_1 : decode cX6_mirror 1 = .ok (.aload_n 0, 1) := by decide +kernel
theorem dX6_mirror_2 : decode cX6_mirror 2 = .ok (.getfield 12, 3) := by decide +kernel
theorem dX6_mirror_5 : decode cX6_mirror 5 = .ok (.aload_n 0, 1) := by decide +kernel
theorem dX6_mirror_6 : decode cX6_mirror 6 = .ok (.getfield 70, 3) := by decide +kernel
theorem dX6_mirror_9 : decode cX6_mirror 9 = .ok (.invokevirtual 142, 3) := by decide +kernel
theorem dX6_mirror_12 : decode cX6_mirror 12 = .ok (.invokevirtual 88, 3) := by decide +kernel
theorem dX6_mirror_15 : decode cX6_mirror 15 = .ok (.ireturn, 1) := by decide +kernel
theorem dX6_off_0 : decode cX6_off 0 = .ok (.aload_n 0, 1) := by decide +kernel
theorem dX6_off_1 : decode cX6_off 1 = .ok (.getfield 37, 3) := by decide +kernel
theorem dX6_off_4 : decode cX6_off 4 = .ok (.invokevirtual 145, 3) := by decide +kernel
theorem dX6_off_7 : decode cX6_off 7 = .ok (.istore_n 1, 1) := by decide +kernel
theorem dX6_off_8 : decode cX6_off 8 = .ok (.iload_n 1, 1) := by decide +kernel
theorem dX6_off_9 : decode cX6_off 9 = .ok (.ifCond .ne 6, 3) := by decide +kernel
theorem dX6_off_12 : decode cX6_off 12 = .ok (.bipush (-3), 2) := by decide +kernel
theorem dX6_off_14 : decode cX6_off 14 = .ok (.ireturn, 1) := by decide +kernel
theorem dX6_off_15 : decode cX6_off 15 = .ok (.aload_n 0, 1) := by decide +kernel
theorem dX6_off_16 : decode cX6_off 16 = .ok (.iload_n 1, 1) := by decide +kernel
theorem dX6_off_17 : decode cX6_off 17 = .ok (.putfield 70, 3) := by decide +kernel
theorem dX6_off_20 : decode cX6_off 20 = .ok (.aload_n 0, 1) := by decide +kernel
theorem dX6_off_21 : decode cX6_off 21 = .ok (.getfield 37, 3) := by decide +kernel
theorem dX6_off_24 : decode cX6_off 24 = .ok (.invokevirtual 148, 3) := by decide +kernel
theorem dX6_off_27 : decode cX6_off 27 = .ok (.ireturn, 1) := by decide +kernel
theorem dX6_below_0 : decode cX6_below 0 = .ok (.aload_n 0, 1) := by decide +kernel
theorem dX6_below_1 : decode cX6_below 1 = .ok (.iload_n 1, 1) := by decide +kernel
theorem dX6_below_2 : decode cX6_below 2 = .ok (.iload_n 2, 1) := by decide +kernel
theorem dX6_below_3 : decode cX6_below 3 = .ok (.invokevirtual 151, 3) := by decide +kernel
theorem dX6_below_6 : decode cX6_below 6 = .ok (.istore_n 3, 1) := by decide +kernel
theorem dX6_below_7 : decode cX6_below 7 = .ok (.iload_n 3, 1) := by decide +kernel
theorem dX6_below_8 : decode cX6_below 8 = .ok (.ifCond .eq 5, 3) := by decide +kernel
theorem dX6_below_11 : decode cX6_below 11 = .ok (.iload_n 3, 1) := by decide +kernel
theorem dX6_below_12 : decode cX6_below 12 = .ok (.ireturn, 1) := by decide +kernel
theorem dX6_below_13 : decode cX6_below 13 = .ok (.aload_n 0, 1) := by decide +kernel
theorem dX6_below_14 : decode cX6_below 14 = .ok (.getfield 55, 3) := by decide +kernel
theorem dX6_below_17 : decode cX6_below 17 = .ok (.iload_n 1, 1) := by decide +kernel
theorem dX6_below_18 : decode cX6_below 18 = .ok (.iaload, 1) := by decide +kernel
theorem dX6_below_19 : decode cX6_below 19 = .ok (.istore 4, 2) := by decide +kernel
theorem dX6_below_21 : decode cX6_below 21 = .ok (.iload_n 2, 1) := by decide +kernel
theorem dX6_below_22 : decode cX6_below 22 = .ok (.ifCond .ne 19, 3) := by decide +kernel
theorem dX6_below_25 : decode cX6_below 25 = .ok (.aload_n 0, 1) := by decide +kernel
theorem dX6_below_26 : decode cX6_below 26 = .ok (.getfield 23, 3) := by decide +kernel
theorem dX6_below_29 : decode cX6_below 29 = .ok (.aload_n 0, 1) := by decide +kernel
theorem dX6_below_30 : decode cX6_below 30 = .ok (.getfield 70, 3) := by decide +kernel
theorem dX6_below_33 : decode cX6_below 33 = .ok (.iload 4, 2) := by decide +kernel
theorem dX6_below_35 : decode cX6_below 35 = .ok (.invokevirtual 154, 3) := by decide +kernel
theorem dX6_below_38 : decode cX6_below 38 = .ok (.goto 16, 3) := by decide +kernel
theorem dX6_below_41 : decode cX6_below 41 = .ok (.aload_n 0, 1) := by decide +kernel
theorem dX6_below_42 : decode cX6_below 42 = .ok (.getfield 23, 3) := by decide +kernel
theorem dX6_below_45 : decode cX6_below 45 = .ok (.iload 4, 2) := by decide +kernel
theorem dX6_below_47 : decode cX6_below 47 = .ok (.aload_n 0, 1) := by decide +kernel
theorem dX6_below_48 : decode cX6_below 48 = .ok (.getfield 70, 3) := by decide +kernel
theorem dX6_below_51 : decode cX6_below 51 = .ok (.invokevirtual 154, 3) := by decide +kernel
theorem dX6_below_54 : decode cX6_below 54 = .ok (.istore 5, 2) := by decide +kernel
theorem dX6_below_56 : decode cX6_below 56 = .ok (.iload 5, 2) := by decide +kernel
theorem dX6_below_58 : decode cX6_below 58 = .ok (.ifCond .eq 7, 3) := by decide +kernel
theorem dX6_below_61 : decode cX6_below 61 = .ok (.iconst 1, 1) := by decide +kernel
theorem dX6_below_62 : decode cX6_below 62 = .ok (.goto 4, 3) := by decide +kernel
theorem dX6_below_65 : decode cX6_below 65 = .ok (.iconst 0, 1) := by decide +kernel
theorem dX6_below_66 : decode cX6_below 66 = .ok (.ireturn, 1) := by decide +kernel
theorem dX6_meet_0 : decode cX6_meet 0 = .ok (.aload_n 0, 1) := by decide +kernel
theorem dX6_meet_1 : decode cX6_meet 1 = .ok (.iload_n 1, 1) := by decide +kernel
theorem dX6_meet_2 : decode cX6_meet 2 = .ok (.iload_n 2, 1) := by decide +kernel
theorem dX6_meet_3 : decode cX6_meet 3 = .ok (.invokevirtual 151, 3) := by decide +kernel
theorem dX6_meet_6 : decode cX6_meet 6 = .ok (.istore_n 3, 1) := by decide +kernel
theorem dX6_meet_7 : decode cX6_meet 7 = .ok (.iload_n 3, 1) := by decide +kernel
theorem dX6_meet_8 : decode cX6_meet 8 = .ok (.ifCond .eq 5, 3) := by decide +kernel
theorem dX6_meet_11 : decode cX6_meet 11 = .ok (.iload_n 3, 1) := by decide +kernel
theorem dX6_meet_12 : decode cX6_meet 12 = .ok (.ireturn, 1) := by decide +kernel
theorem dX6_meet_13 : decode cX6_meet 13 = .ok (.aload_n 0, 1) := by decide +kernel
theorem dX6_meet_14 : decode cX6_meet 14 = .ok (.getfield 12, 3) := by decide +kernel
theorem dX6_meet_17 : decode cX6_meet 17 = .ok (.aload_n 0, 1) := by decide +kernel
theorem dX6_meet_18 : decode cX6_meet 18 = .ok (.getfield 23, 3) := by decide +kernel
theorem dX6_meet_21 : decode cX6_meet 21 = .ok (.aload_n 0, 1) := by decide +kernel
theorem dX6_meet_22 : decode cX6_meet 22 = .ok (.getfield 70, 3) := by decide +kernel
theorem dX6_meet_25 : decode cX6_meet 25 = .ok (.aload_n 0, 1) := by decide +kernel
theorem dX6_meet_26 : decode cX6_meet 26 = .ok (.getfield 55, 3) := by decide +kernel
theorem dX6_meet_29 : decode cX6_meet 29 = .ok (.iload_n 1, 1) := by decide +kernel
theorem dX6_meet_30 : decode cX6_meet 30 = .ok (.iaload, 1) := by decide +kernel
theorem dX6_meet_31 : decode cX6_meet 31 = .ok (.iload_n 2, 1) := by decide +kernel
theorem dX6_meet_32 : decode cX6_meet 32 = .ok (.iconst 1, 1) := by decide +kernel
theorem dX6_meet_33 : decode cX6_meet 33 = .ok (.if_icmp .ne 7, 3) := by decide +kernel
theorem dX6_meet_36 : decode cX6_meet 36 = .ok (.iconst 1, 1) := by decide +kernel
theorem dX6_meet_37 : decode cX6_meet 37 = .ok (.goto 4, 3) := by decide +kernel
theorem dX6_meet_40 : decode cX6_meet 40 = .ok (.iconst 0, 1) := by decide +kernel
theorem dX6_meet_41 : decode cX6_meet 41 = .ok (.invokevirtual 158, 3) := by decide +kernel
theorem dX6_meet_44 : decode cX6_meet 44 = .ok (.invokevirtual 115, 3) := by decide +kernel
theorem dX6_meet_47 : decode cX6_meet 47 = .ok (.ireturn, 1) := by decide +kernel
theorem dX6_meetAll_0 : decode cX6_meetAll 0 = .ok (.iload_n 1, 1) := by decide +kernel
theorem dX6_meetAll_1 : decode cX6_meetAll 1 = .ok (.ifCond .lt 8, 3) := by decide +kernel
theorem dX6_meetAll_4 : decode cX6_meetAll 4 = .ok (.iload_n 1, 1) := by decide +kernel
theorem dX6_meetAll_5 : decode cX6_meetAll 5 = .ok (.iconst 1, 1) := by decide +kernel
theorem dX6_meetAll_6 : decode cX6_meetAll 6 = .ok (.if_icmp .le 5, 3) := by decide +kernel
theorem dX6_meetAll_9 : decode cX6_meetAll 9 = .ok (.iconst (-1), 1) := by decide +kernel
theorem dX6_meetAll_10 : decode cX6_meetAll 10 = .ok (.ireturn, 1) := by decide +kernel
theorem dX6_meetAll_11 : decode cX6_meetAll 11 = .ok (.aload_n 0, 1) := by decide +kernel
theorem dX6_meetAll_12 : decode cX6_meetAll 12 = .ok (.getfield 70, 3) := by decide +kernel
theorem dX6_meetAll_15 : decode cX6_meetAll 15 = .ok (.istore_n 2, 1) := by decide +kernel
theorem dX6_meetAll_16 : decode cX6_meetAll 16 = .ok (.aload_n 0, 1) := by decide +kernel
theorem dX6_meetAll_17 : decode cX6_meetAll 17 = .ok (.getfield 55, 3) := by decide +kernel
theorem dX6_meetAll_20 : decode cX6_meetAll 20 = .ok (.astore_n 3, 1) := by decide +kernel
theorem dX6_meetAll_21 : decode cX6_meetAll 21 = .ok (.aload_n 3, 1) := by decide +kernel
theorem dX6_meetAll_22 : decode cX6_meetAll 22 = .ok (.arraylength, 1) := by decide +kernel
theorem dX6_meetAll_23 : decode cX6_meetAll 23 = .ok (.istore 4, 2) := by decide +kernel
theorem dX6_meetAll_25 : decode cX6_meetAll 25 = .ok (.iconst 0, 1) := by decide +kernel
theorem dX6_meetAll_26 : decode cX6_meetAll 26 = .ok (.istore 5, 2) := by decide +kernel
theorem dX6_meetAll_28 : decode cX6_meetAll 28 = .ok (.iload 5, 2) := by decide +kernel
theorem dX6_meetAll_30 : decode cX6_meetAll 30 = .ok (.iload 4, 2) := by decide +kernel
theorem dX6_meetAll_32 : decode cX6_meetAll 32 = .ok (.if_icmp .ge 52, 3) := by decide +kernel
theorem dX6_meetAll_35 : decode cX6_meetAll 35 = .ok (.aload_n 3, 1) := by decide +kernel
theorem dX6_meetAll_36 : decode cX6_meetAll 36 = .ok (.iload 5, 2) := by decide +kernel
theorem dX6_meetAll_38 : decode cX6_meetAll 38 = .ok (.iaload, 1) := by decide +kernel
theorem dX6_meetAll_39 : decode cX6_meetAll 39 = .ok (.istore 6, 2) := by decide +kernel
theorem dX6_meetAll_41 : decode cX6_meetAll 41 = .ok (.aload_n 0, 1) := by decide +kernel
theorem dX6_meetAll_42 : decode cX6_meetAll 42 = .ok (.getfield 12, 3) := by decide +kernel
theorem dX6_meetAll_45 : decode cX6_meetAll 45 = .ok (.iload 6, 2) := by decide +kernel
theorem dX6_meetAll_47 : decode cX6_meetAll 47 = .ok (.invokevirtual 162, 3) := by decide +kernel
theorem dX6_meetAll_50 : decode cX6_meetAll 50 = .ok (.aload_n 0, 1) := by decide +kernel
theorem dX6_meetAll_51 : decode cX6_meetAll 51 = .ok (.invokevirtual 77, 3) := by decide +kernel
theorem dX6_meetAll_54 : decode cX6_meetAll 54 = .ok (.if_icmp .ne 24, 3) := by decide +kernel
theorem dX6_meetAll_57 : decode cX6_meetAll 57 = .ok (.aload_n 0, 1) := by decide +kernel
theorem dX6_meetAll_58 : decode cX6_meetAll 58 = .ok (.getfield 23, 3) := by decide +kernel
theorem dX6_meetAll_61 : decode cX6_meetAll 61 = .ok (.iload_n 2, 1) := by decide +kernel
theorem dX6_meetAll_62 : decode cX6_meetAll 62 = .ok (.iload 6, 2) := by decide +kernel
theorem dX6_meetAll_64 : decode cX6_meetAll 64 = .ok (.iload_n 1, 1) := by decide +kernel
theorem dX6_meetAll_65 : decode cX6_meetAll 65 = .ok (.iconst 1, 1) := by decide +kernel
theorem dX6_meetAll_66 : decode cX6_meetAll 66 = .ok (.if_icmp .ne 7, 3) := by decide +kernel
theorem dX6_meetAll_69 : decode cX6_meetAll 69 = .ok (.iconst 1, 1) := by decide +kernel
theorem dX6_meetAll_70 : decode cX6_meetAll 70 = .ok (.goto 4, 3) := by decide +kernel
theorem dX6_meetAll_73 : decode cX6_meetAll 73 = .ok (.iconst 0, 1) := by decide +kernel
theorem dX6_meetAll_74 : decode cX6_meetAll 74 = .ok (.invokevirtual 158, 3) := by decide +kernel
theorem dX6_meetAll_77 : decode cX6_meetAll 77 = .ok (.istore_n 2, 1) := by decide +kernel
theorem dX6_meetAll_78 : decode cX6_meetAll 78 = .ok (.iinc 5 1, 3) := by decide +kernel
theorem dX6_meetAll_81 : decode cX6_meetAll 81 = .ok (.goto (-53), 3) := by decide +kernel
theorem dX6_meetAll_84 : decode cX6_meetAll 84 = .ok (.aload_n 0, 1) := by decide +kernel
theorem dX6_meetAll_85 : decode cX6_meetAll 85 = .ok (.getfield 12, 3) := by decide +kernel
theorem dX6_meetAll_88 : decode cX6_meetAll 88 = .ok (.iload_n 2, 1) := by decide +kernel
theorem dX6_meetAll_89 : decode cX6_meetAll 89 = .ok (.invokevirtual 115, 3) := by decide +kernel
theorem dX6_meetAll_92 : decode cX6_meetAll 92 = .ok (.ireturn, 1) := by decide +kernel
theorem dX6_between_0 : decode cX6_between 0 = .ok (.iload_n 2, 1) := by decide +kernel
theorem dX6_between_1 : decode cX6_between 1 = .ok (.iconst (-1), 1) := by decide +kernel
theorem dX6_between_2 : decode cX6_between 2 = .ok (.if_icmp .ge 5, 3) := by decide +kernel
theorem dX6_between_5 : decode cX6_between 5 = .ok (.iconst (-1), 1) := by decide +kernel
theorem dX6_between_6 : decode cX6_between 6 = .ok (.ireturn, 1) := by decide +kernel
theorem dX6_between_7 : decode cX6_between 7 = .ok (.aload_n 0, 1) := by decide +kernel
theorem dX6_between_8 : decode cX6_between 8 = .ok (.iload_n 1, 1) := by decide +kernel
theorem dX6_between_9 : decode cX6_between 9 = .ok (.invokevirtual 165, 3) := by decide +kernel
theorem dX6_between_12 : decode cX6_between 12 = .ok (.istore_n 3, 1) := by decide +kernel
theorem dX6_between_13 : decode cX6_between 13 = .ok (.iload_n 3, 1) := by decide +kernel
theorem dX6_between_14 : decode cX6_between 14 = .ok (.ifCond .eq 5, 3) := by decide +kernel
theorem dX6_between_17 : decode cX6_between 17 = .ok (.iload_n 3, 1) := by decide +kernel
theorem dX6_between_18 : decode cX6_between 18 = .ok (.ireturn, 1) := by decide +kernel
theorem dX6_between_19 : decode cX6_between 19 = .ok (.iload_n 2, 1) := by decide +kernel
theorem dX6_between_20 : decode cX6_between 20 = .ok (.iconst (-1), 1) := by decide +kernel
theorem dX6_between_21 : decode cX6_between 21 = .ok (.if_icmp .ne 21, 3) := by decide +kernel
theorem dX6_between_24 : decode cX6_between 24 = .ok (.aload_n 0, 1) := by decide +kernel
theorem dX6_between_25 : decode cX6_between 25 = .ok (.getfield 23, 3) := by decide +kernel
theorem dX6_between_28 : decode cX6_between 28 = .ok (.aload_n 0, 1) := by decide +kernel
theorem dX6_between_29 : decode cX6_between 29 = .ok (.getfield 70, 3) := by decide +kernel
theorem dX6_between_32 : decode cX6_between 32 = .ok (.aload_n 0, 1) := by decide +kernel
theorem dX6_between_33 : decode cX6_between 33 = .ok (.getfield 55, 3) := by decide +kernel
theorem dX6_between_36 : decode cX6_between 36 = .ok (.iload_n 1, 1) := by decide +kernel
theorem dX6_between_37 : decode cX6_between 37 = .ok (.iaload, 1) := by decide +kernel
theorem dX6_between_38 : decode cX6_between 38 = .ok (.invokevirtual 168, 3) := by decide +kernel
theorem dX6_between_41 : decode cX6_between 41 = .ok (.ireturn, 1) := by decide +kernel
theorem dX6_between_42 : decode cX6_between 42 = .ok (.aload_n 0, 1) := by decide +kernel
theorem dX6_between_43 : decode cX6_between 43 = .ok (.getfield 23, 3) := by decide +kernel
theorem dX6_between_46 : decode cX6_between 46 = .ok (.aload_n 0, 1) := by decide +kernel
theorem dX6_between_47 : decode cX6_between 47 = .ok (.getfield 70, 3) := by decide +kernel
theorem dX6_between_50 : decode cX6_between 50 = .ok (.aload_n 0, 1) := by decide +kernel
theorem dX6_between_51 : decode cX6_between 51 = .ok (.getfield 55, 3) := by decide +kernel
theorem dX6_between_54 : decode cX6_between 54 = .ok (.iload_n 1, 1) := by decide +kernel
theorem dX6_between_55 : decode cX6_between 55 = .ok (.iaload, 1) := by decide +kernel
theorem dX6_between_56 : decode cX6_between 56 = .ok (.iload_n 2, 1) := by decide +kernel
theorem dX6_between_57 : decode cX6_between 57 = .ok (.invokevirtual 171, 3) := by decide +kernel
theorem dX6_between_60 : decode cX6_between 60 = .ok (.istore 4, 2) := by decide +kernel
theorem dX6_between_62 : decode cX6_between 62 = .ok (.iload 4, 2) := by decide +kernel
theorem dX6_between_64 : decode cX6_between 64 = .ok (.ifCond .ne 7, 3) := by decide +kernel
theorem dX6_between_67 : decode cX6_between 67 = .ok (.iconst (-1), 1) := by decide +kernel
theorem dX6_between_68 : decode cX6_between 68 = .ok (.goto 12, 3) := by decide +kernel
theorem dX6_between_71 : decode cX6_between 71 = .ok (.aload_n 0, 1) := by decide +kernel
theorem dX6_between_72 : decode cX6_between 72 = .ok (.getfield 12, 3) := by decide +kernel
theorem dX6_between_75 : decode cX6_between 75 = .ok (.iload 4, 2) := by decide +kernel
theorem dX6_between_77 : decode cX6_between 77 = .ok (.invokevirtual 115, 3) := by decide +kernel
theorem dX6_between_80 : decode cX6_between 80 = .ok (.ireturn, 1) := by decide +kernel
theorem dX6_way_0 : decode cX6_way 0 = .ok (.aload_n 0, 1) := by decide +kernel
theorem dX6_way_1 : decode cX6_way 1 = .ok (.iload_n 1, 1) := by decide +kernel
theorem dX6_way_2 : decode cX6_way 2 = .ok (.iload_n 2, 1) := by decide +kernel
theorem dX6_way_3 : decode cX6_way 3 = .ok (.invokevirtual 151, 3) := by decide +kernel
theorem dX6_way_6 : decode cX6_way 6 = .ok (.istore_n 3, 1) := by decide +kernel
theorem dX6_way_7 : decode cX6_way 7 = .ok (.iload_n 3, 1) := by decide +kernel
theorem dX6_way_8 : decode cX6_way 8 = .ok (.ifCond .eq 5, 3) := by decide +kernel
theorem dX6_way_11 : decode cX6_way 11 = .ok (.iload_n 3, 1) := by decide +kernel
theorem dX6_way_12 : decode cX6_way 12 = .ok (.ireturn, 1) := by decide +kernel
theorem dX6_way_13 : decode cX6_way 13 = .ok (.aload_n 0, 1) := by decide +kernel
theorem dX6_way_14 : decode cX6_way 14 = .ok (.getfield 30, 3) := by decide +kernel
theorem dX6_way_17 : decode cX6_way 17 = .ok (.aload_n 0, 1) := by decide +kernel
theorem dX6_way_18 : decode cX6_way 18 = .ok (.getfield 55, 3) := by decide +kernel
theorem dX6_way_21 : decode cX6_way 21 = .ok (.iload_n 1, 1) := by decide +kernel
theorem dX6_way_22 : decode cX6_way 22 = .ok (.iaload, 1) := by decide +kernel
theorem dX6_way_23 : decode cX6_way 23 = .ok (.invokevirtual 175, 3) := by decide +kernel
theorem dX6_way_26 : decode cX6_way 26 = .ok (.aload_n 0, 1) := by decide +kernel
theorem dX6_way_27 : decode cX6_way 27 = .ok (.getfield 30, 3) := by decide +kernel
theorem dX6_way_30 : decode cX6_way 30 = .ok (.aload_n 0, 1) := by decide +kernel
theorem dX6_way_31 : decode cX6_way 31 = .ok (.getfield 70, 3) := by decide +kernel
theorem dX6_way_34 : decode cX6_way 34 = .ok (.invokevirtual 178, 3) := by decide +kernel
theorem dX6_way_37 : decode cX6_way 37 = .ok (.istore 4, 2) := by decide +kernel
theorem dX6_way_39 : decode cX6_way 39 = .ok (.iload_n 2, 1) := by decide +kernel
theorem dX6_way_40 : decode cX6_way 40 = .ok (.ifCond .ne 6, 3) := by decide +kernel
theorem dX6_way_43 : decode cX6_way 43 = .ok (.iload 4, 2) := by decide +kernel
theorem dX6_way_45 : decode cX6_way 45 = .ok (.ireturn, 1) := by decide +kernel
theorem dX6_way_46 : decode cX6_way 46 = .ok (.iload 4, 2) := by decide +kernel
theorem dX6_way_48 : decode cX6_way 48 = .ok (.ifCond .ne 6, 3) := by decide +kernel
theorem dX6_way_51 : decode cX6_way 51 = .ok (.bipush (-5), 2) := by decide +kernel
theorem dX6_way_53 : decode cX6_way 53 = .ok (.ireturn, 1) := by decide +kernel
theorem dX6_way_54 : decode cX6_way 54 = .ok (.aload_n 0, 1) := by decide +kernel
theorem dX6_way_55 : decode cX6_way 55 = .ok (.getfield 30, 3) := by decide +kernel
theorem dX6_way_58 : decode cX6_way 58 = .ok (.aload_n 0, 1) := by decide +kernel
theorem dX6_way_59 : decode cX6_way 59 = .ok (.getfield 70, 3) := by decide +kernel
theorem dX6_way_62 : decode cX6_way 62 = .ok (.invokevirtual 181, 3) := by decide +kernel
theorem dX6_way_65 : decode cX6_way 65 = .ok (.istore 5, 2) := by decide +kernel
theorem dX6_way_67 : decode cX6_way 67 = .ok (.iload 5, 2) := by decide +kernel
theorem dX6_way_69 : decode cX6_way 69 = .ok (.ifCond .lt 8, 3) := by decide +kernel
theorem dX6_way_72 : decode cX6_way 72 = .ok (.iload 5, 2) := by decide +kernel
theorem dX6_way_74 : decode cX6_way 74 = .ok (.goto 8, 3) := by decide +kernel
theorem dX6_way_77 : decode cX6_way 77 = .ok (.bipush 99, 2) := by decide +kernel
theorem dX6_way_79 : decode cX6_way 79 = .ok (.iload 5, 2) := by decide +kernel
theorem dX6_way_81 : decode cX6_way 81 = .ok (.isub, 1) := by decide +kernel
theorem dX6_way_82 : decode cX6_way 82 = .ok (.ireturn, 1) := by decide +kernel
theorem dX6_chain_0 : decode cX6_chain 0 = .ok (.aload_n 0, 1) := by decide +kernel
theorem dX6_chain_1 : decode cX6_chain 1 = .ok (.iload_n 1, 1) := by decide +kernel
theorem dX6_chain_2 : decode cX6_chain 2 = .ok (.iload_n 2, 1) := by decide +kernel
theorem dX6_chain_3 : decode cX6_chain 3 = .ok (.invokevirtual 151, 3) := by decide +kernel
theorem dX6_chain_6 : decode cX6_chain 6 = .ok (.istore_n 3, 1) := by decide +kernel
theorem dX6_chain_7 : decode cX6_chain 7 = .ok (.iload_n 3, 1) := by decide +kernel
theorem dX6_chain_8 : decode cX6_chain 8 = .ok (.ifCond .eq 5, 3) := by decide +kernel
theorem dX6_chain_11 : decode cX6_chain 11 = .ok (.iload_n 3, 1) := by decide +kernel
theorem dX6_chain_12 : decode cX6_chain 12 = .ok (.ireturn, 1) := by decide +kernel
theorem dX6_chain_13 : decode cX6_chain 13 = .ok (.aload_n 0, 1) := by decide +kernel
theorem dX6_chain_14 : decode cX6_chain 14 = .ok (.getfield 23, 3) := by decide +kernel
theorem dX6_chain_17 : decode cX6_chain 17 = .ok (.aload_n 0, 1) := by decide +kernel
theorem dX6_chain_18 : decode cX6_chain 18 = .ok (.getfield 70, 3) := by decide +kernel
theorem dX6_chain_21 : decode cX6_chain 21 = .ok (.aload_n 0, 1) := by decide +kernel
theorem dX6_chain_22 : decode cX6_chain 22 = .ok (.getfield 55, 3) := by decide +kernel
theorem dX6_chain_25 : decode cX6_chain 25 = .ok (.iload_n 1, 1) := by decide +kernel
theorem dX6_chain_26 : decode cX6_chain 26 = .ok (.iaload, 1) := by decide +kernel
theorem dX6_chain_27 : decode cX6_chain 27 = .ok (.invokevirtual 154, 3) := by decide +kernel
theorem dX6_chain_30 : decode cX6_chain 30 = .ok (.ifCond .ne 6, 3) := by decide +kernel
theorem dX6_chain_33 : decode cX6_chain 33 = .ok (.bipush (-5), 2) := by decide +kernel
theorem dX6_chain_35 : decode cX6_chain 35 = .ok (.ireturn, 1) := by decide +kernel
theorem dX6_chain_36 : decode cX6_chain 36 = .ok (.aload_n 0, 1) := by decide +kernel
theorem dX6_chain_37 : decode cX6_chain 37 = .ok (.getfield 30, 3) := by decide +kernel
theorem dX6_chain_40 : decode cX6_chain 40 = .ok (.aload_n 0, 1) := by decide +kernel
theorem dX6_chain_41 : decode cX6_chain 41 = .ok (.getfield 70, 3) := by decide +kernel
theorem dX6_chain_44 : decode cX6_chain 44 = .ok (.aload_n 0, 1) := by decide +kernel
theorem dX6_chain_45 : decode cX6_chain 45 = .ok (.getfield 55, 3) := by decide +kernel
theorem dX6_chain_48 : decode cX6_chain 48 = .ok (.iload_n 1, 1) := by decide +kernel
theorem dX6_chain_49 : decode cX6_chain 49 = .ok (.iaload, 1) := by decide +kernel
theorem dX6_chain_50 : decode cX6_chain 50 = .ok (.iload_n 2, 1) := by decide +kernel
theorem dX6_chain_51 : decode cX6_chain 51 = .ok (.iconst 1, 1) := by decide +kernel
theorem dX6_chain_52 : decode cX6_chain 52 = .ok (.if_icmp .ne 7, 3) := by decide +kernel
theorem dX6_chain_55 : decode cX6_chain 55 = .ok (.iconst 1, 1) := by decide +kernel
theorem dX6_chain_56 : decode cX6_chain 56 = .ok (.goto 4, 3) := by decide +kernel
theorem dX6_chain_59 : decode cX6_chain 59 = .ok (.iconst 0, 1) := by decide +kernel
theorem dX6_chain_60 : decode cX6_chain 60 = .ok (.invokevirtual 184, 3) := by decide +kernel
theorem dX6_chain_63 : decode cX6_chain 63 = .ok (.ireturn, 1) := by decide +kernel
theorem dX6_mark_0 : decode cX6_mark 0 = .ok (.aload_n 0, 1) := by decide +kernel
theorem dX6_mark_1 : decode cX6_mark 1 = .ok (.iload_n 1, 1) := by decide +kernel
theorem dX6_mark_2 : decode cX6_mark 2 = .ok (.invokevirtual 165, 3) := by decide +kernel
theorem dX6_mark_5 : decode cX6_mark 5 = .ok (.istore_n 2, 1) := by decide +kernel
theorem dX6_mark_6 : decode cX6_mark 6 = .ok (.iload_n 2, 1) := by decide +kernel
theorem dX6_mark_7 : decode cX6_mark 7 = .ok (.ifCond .eq 8, 3) := by decide +kernel
theorem dX6_mark_10 : decode cX6_mark 10 = .ok (.bipush (-100), 2) := by decide +kernel
theorem dX6_mark_12 : decode cX6_mark 12 = .ok (.iload_n 2, 1) := by decide +kernel
theorem dX6_mark_13 : decode cX6_mark 13 = .ok (.isub, 1) := by decide +kernel
theorem dX6_mark_14 : decode cX6_mark 14 = .ok (.ireturn, 1) := by decide +kernel
theorem dX6_mark_15 : decode cX6_mark 15 = .ok (.aload_n 0, 1) := by decide +kernel
theorem dX6_mark_16 : decode cX6_mark 16 = .ok (.getfield 23, 3) := by decide +kernel
theorem dX6_mark_19 : decode cX6_mark 19 = .ok (.aload_n 0, 1) := by decide +kernel
theorem dX6_mark_20 : decode cX6_mark 20 = .ok (.getfield 70, 3) := by decide +kernel
theorem dX6_mark_23 : decode cX6_mark 23 = .ok (.aload_n 0, 1) := by decide +kernel
theorem dX6_mark_24 : decode cX6_mark 24 = .ok (.getfield 55, 3) := by decide +kernel
theorem dX6_mark_27 : decode cX6_mark 27 = .ok (.iload_n 1, 1) := by decide +kernel
theorem dX6_mark_28 : decode cX6_mark 28 = .ok (.iaload, 1) := by decide +kernel
theorem dX6_mark_29 : decode cX6_mark 29 = .ok (.invokevirtual 154, 3) := by decide +kernel
theorem dX6_mark_32 : decode cX6_mark 32 = .ok (.ifCond .ne 6, 3) := by decide +kernel
theorem dX6_mark_35 : decode cX6_mark 35 = .ok (.bipush (-95), 2) := by decide +kernel
theorem dX6_mark_37 : decode cX6_mark 37 = .ok (.ireturn, 1) := by decide +kernel
theorem dX6_mark_38 : decode cX6_mark 38 = .ok (.aload_n 0, 1) := by decide +kernel
theorem dX6_mark_39 : decode cX6_mark 39 = .ok (.getfield 23, 3) := by decide +kernel
theorem dX6_mark_42 : decode cX6_mark 42 = .ok (.aload_n 0, 1) := by decide +kernel
theorem dX6_mark_43 : decode cX6_mark 43 = .ok (.getfield 70, 3) := by decide +kernel
theorem dX6_mark_46 : decode cX6_mark 46 = .ok (.aload_n 0, 1) := by decide +kernel
theorem dX6_mark_47 : decode cX6_mark 47 = .ok (.getfield 55, 3) := by decide +kernel
theorem dX6_mark_50 : decode cX6_mark 50 = .ok (.iload_n 1, 1) := by decide +kernel
theorem dX6_mark_51 : decode cX6_mark 51 = .ok (.iaload, 1) := by decide +kernel
theorem dX6_mark_52 : decode cX6_mark 52 = .ok (.invokevirtual 187, 3) := by decide +kernel
theorem dX6_mark_55 : decode cX6_mark 55 = .ok (.ireturn, 1) := by decide +kernel
theorem dX6_pairs_0 : decode cX6_pairs 0 = .ok (.iload_n 1, 1) := by decide +kernel
theorem dX6_pairs_1 : decode cX6_pairs 1 = .ok (.invokestatic 73, 3) := by decide +kernel
theorem dX6_pairs_4 : decode cX6_pairs 4 = .ok (.ifCond .eq 20, 3) := by decide +kernel
theorem dX6_pairs_7 : decode cX6_pairs 7 = .ok (.iload_n 1, 1) := by decide +kernel
theorem dX6_pairs_8 : decode cX6_pairs 8 = .ok (.bipush 6, 2) := by decide +kernel
theorem dX6_pairs_10 : decode cX6_pairs 10 = .ok (.if_icmp .gt 14, 3) := by decide +kernel
theorem dX6_pairs_13 : decode cX6_pairs 13 = .ok (.aload_n 0, 1) := by decide +kernel
theorem dX6_pairs_14 : decode cX6_pairs 14 = .ok (.getfield 23, 3) := by decide +kernel
theorem dX6_pairs_17 : decode cX6_pairs 17 = .ok (.iload_n 1, 1) := by decide +kernel
theorem dX6_pairs_18 : decode cX6_pairs 18 = .ok (.invokevirtual 190, 3) := by decide +kernel
theorem dX6_pairs_21 : decode cX6_pairs 21 = .ok (.goto 5, 3) := by decide +kernel
theorem dX6_pairs_24 : decode cX6_pairs 24 = .ok (.bipush (-2), 2) := by decide +kernel
theorem dX6_pairs_26 : decode cX6_pairs 26 = .ok (.ireturn, 1) := by decide +kernel
theorem dX6_far_0 : decode cX6_far 0 = .ok (.aload_n 0, 1) := by decide +kernel
theorem dX6_far_1 : decode cX6_far 1 = .ok (.getfield 30, 3) := by decide +kernel
theorem dX6_far_4 : decode cX6_far 4 = .ok (.aload_n 0, 1) := by decide +kernel
theorem dX6_far_5 : decode cX6_far 5 = .ok (.getfield 70, 3) := by decide +kernel
theorem dX6_far_8 : decode cX6_far 8 = .ok (.invokevirtual 175, 3) := by decide +kernel
theorem dX6_far_11 : decode cX6_far 11 = .ok (.iload_n 1, 1) := by decide +kernel
theorem dX6_far_12 : decode cX6_far 12 = .ok (.tableswitch 59 0 2 #[28, 36, 44], 28) := by decide +kernel
theorem dX6_far_40 : decode cX6_far 40 = .ok (.aload_n 0, 1) := by decide +kernel
theorem dX6_far_41 : decode cX6_far 41 = .ok (.getfield 30, 3) := by decide +kernel
theorem dX6_far_44 : decode cX6_far 44 = .ok (.invokevirtual 193, 3) := by decide +kernel
theorem dX6_far_47 : decode cX6_far 47 = .ok (.ireturn, 1) := by decide +kernel
theorem dX6_far_48 : decode cX6_far 48 = .ok (.aload_n 0, 1) := by decide +kernel
theorem dX6_far_49 : decode cX6_far 49 = .ok (.getfield 30, 3) := by decide +kernel
theorem dX6_far_52 : decode cX6_far 52 = .ok (.invokevirtual 196, 3) := by decide +kernel
theorem dX6_far_55 : decode cX6_far 55 = .ok (.ireturn, 1) := by decide +kernel
theorem dX6_far_56 : decode cX6_far 56 = .ok (.aload_n 0, 1) := by decide +kernel
theorem dX6_far_57 : decode cX6_far 57 = .ok (.getfield 12, 3) := by decide +kernel
theorem dX6_far_60 : decode cX6_far 60 = .ok (.aload_n 0, 1) := by decide +kernel
theorem dX6_far_61 : decode cX6_far 61 = .ok (.getfield 30, 3) := by decide +kernel
theorem dX6_far_64 : decode cX6_far 64 = .ok (.invokevirtual 199, 3) := by decide +kernel
theorem dX6_far_67 : decode cX6_far 67 = .ok (.invokevirtual 115, 3) := by decide +kernel
theorem dX6_far_70 : decode cX6_far 70 = .ok (.ireturn, 1) := by decide +kernel
theorem dX6_far_71 : decode cX6_far 71 = .ok (.iconst (-1), 1) := by decide +kernel
theorem dX6_far_72 : decode cX6_far 72 = .ok (.ireturn, 1) := by decide +kernel
theorem dX6_canopy_0 : decode cX6_canopy 0 = .ok (.aload_n 0, 1) := by decide +kernel
theorem dX6_canopy_1 : decode cX6_canopy 1 = .ok (.getfield 12, 3) := by decide +kernel
theorem dX6_canopy_4 : decode cX6_canopy 4 = .ok (.aload_n 0, 1) := by decide +kernel
theorem dX6_canopy_5 : decode cX6_canopy 5 = .ok (.getfield 70, 3) := by decide +kernel
theorem dX6_canopy_8 : decode cX6_canopy 8 = .ok (.invokevirtual 139, 3) := by decide +kernel
theorem dX6_canopy_11 : decode cX6_canopy 11 = .ok (.ireturn, 1) := by decide +kernel
theorem dX6_inClass_0 : decode cX6_inClass 0 = .ok (.iload_n 1, 1) := by decide +kernel
theorem dX6_inClass_1 : decode cX6_inClass 1 = .ok (.ifCond .lt 15, 3) := by decide +kernel
theorem dX6_inClass_4 : decode cX6_inClass 4 = .ok (.iload_n 1, 1) := by decide +kernel
theorem dX6_inClass_5 : decode cX6_inClass 5 = .ok (.iconst 1, 1) := by decide +kernel
theorem dX6_inClass_6 : decode cX6_inClass 6 = .ok (.aload_n 0, 1) := by decide +kernel
theorem dX6_inClass_7 : decode cX6_inClass 7 = .ok (.invokevirtual 77, 3) := by decide +kernel
theorem dX6_inClass_10 : decode cX6_inClass 10 = .ok (.iconst 1, 1) := by decide +kernel
theorem dX6_inClass_11 : decode cX6_inClass 11 = .ok (.isub, 1) := by decide +kernel
theorem dX6_inClass_12 : decode cX6_inClass 12 = .ok (.ishl, 1) := by decide +kernel
theorem dX6_inClass_13 : decode cX6_inClass 13 = .ok (.if_icmp .lt 6, 3) := by decide +kernel
theorem dX6_inClass_16 : decode cX6_inClass 16 = .ok (.bipush (-2), 2) := by decide +kernel
theorem dX6_inClass_18 : decode cX6_inClass 18 = .ok (.ireturn, 1) := by decide +kernel
theorem dX6_inClass_19 : decode cX6_inClass 19 = .ok (.iload_n 2, 1) := by decide +kernel
theorem dX6_inClass_20 : decode cX6_inClass 20 = .ok (.tableswitch 81 0 2 #[28, 41, 61], 28) := by decide +kernel
theorem dX6_inClass_48 : decode cX6_inClass 48 = .ok (.aload_n 0, 1) := by decide +kernel
theorem dX6_inClass_49 : decode cX6_inClass 49 = .ok (.getfield 12, 3) := by decide +kernel
theorem dX6_inClass_52 : decode cX6_inClass 52 = .ok (.aload_n 0, 1) := by decide +kernel
theorem dX6_inClass_53 : decode cX6_inClass 53 = .ok (.invokevirtual 77, 3) := by decide +kernel
theorem dX6_inClass_56 : decode cX6_inClass 56 = .ok (.iload_n 1, 1) := by decide +kernel
theorem dX6_inClass_57 : decode cX6_inClass 57 = .ok (.invokevirtual 202, 3) := by decide +kernel
theorem dX6_inClass_60 : decode cX6_inClass 60 = .ok (.ireturn, 1) := by decide +kernel
theorem dX6_inClass_61 : decode cX6_inClass 61 = .ok (.aload_n 0, 1) := by decide +kernel
theorem dX6_inClass_62 : decode cX6_inClass 62 = .ok (.getfield 12, 3) := by decide +kernel
theorem dX6_inClass_65 : decode cX6_inClass 65 = .ok (.aload_n 0, 1) := by decide +kernel
theorem dX6_inClass_66 : decode cX6_inClass 66 = .ok (.getfield 12, 3) := by decide +kernel
theorem dX6_inClass_69 : decode cX6_inClass 69 = .ok (.aload_n 0, 1) := by decide +kernel
theorem dX6_inClass_70 : decode cX6_inClass 70 = .ok (.invokevirtual 77, 3) := by decide +kernel
theorem dX6_inClass_73 : decode cX6_inClass 73 = .ok (.iload_n 1, 1) := by decide +kernel
theorem dX6_inClass_74 : decode cX6_inClass 74 = .ok (.invokevirtual 205, 3) := by decide +kernel
theorem dX6_inClass_77 : decode cX6_inClass 77 = .ok (.invokevirtual 115, 3) := by decide +kernel
theorem dX6_inClass_80 : decode cX6_inClass 80 = .ok (.ireturn, 1) := by decide +kernel
theorem dX6_inClass_81 : decode cX6_inClass 81 = .ok (.aload_n 0, 1) := by decide +kernel
theorem dX6_inClass_82 : decode cX6_inClass 82 = .ok (.getfield 12, 3) := by decide +kernel
theorem dX6_inClass_85 : decode cX6_inClass 85 = .ok (.aload_n 0, 1) := by decide +kernel
theorem dX6_inClass_86 : decode cX6_inClass 86 = .ok (.getfield 12, 3) := by decide +kernel
theorem dX6_inClass_89 : decode cX6_inClass 89 = .ok (.aload_n 0, 1) := by decide +kernel
theorem dX6_inClass_90 : decode cX6_inClass 90 = .ok (.invokevirtual 77, 3) := by decide +kernel
theorem dX6_inClass_93 : decode cX6_inClass 93 = .ok (.iload_n 1, 1) := by decide +kernel
theorem dX6_inClass_94 : decode cX6_inClass 94 = .ok (.invokevirtual 208, 3) := by decide +kernel
theorem dX6_inClass_97 : decode cX6_inClass 97 = .ok (.invokevirtual 115, 3) := by decide +kernel
theorem dX6_inClass_100 : decode cX6_inClass 100 = .ok (.ireturn, 1) := by decide +kernel
theorem dX6_inClass_101 : decode cX6_inClass 101 = .ok (.iconst (-1), 1) := by decide +kernel
theorem dX6_inClass_102 : decode cX6_inClass 102 = .ok (.ireturn, 1) := by decide +kernel
theorem dX6_likeness_0 : decode cX6_likeness 0 = .ok (.aload_n 0, 1) := by decide +kernel
theorem dX6_likeness_1 : decode cX6_likeness 1 = .ok (.iload_n 1, 1) := by decide +kernel
theorem dX6_likeness_2 : decode cX6_likeness 2 = .ok (.invokevirtual 165, 3) := by decide +kernel
theorem dX6_likeness_5 : decode cX6_likeness 5 = .ok (.istore_n 2, 1) := by decide +kernel
theorem dX6_likeness_6 : decode cX6_likeness 6 = .ok (.iload_n 2, 1) := by decide +kernel
theorem dX6_likeness_7 : decode cX6_likeness 7 = .ok (.ifCond .eq 5, 3) := by decide +kernel
theorem dX6_likeness_10 : decode cX6_likeness 10 = .ok (.iload_n 2, 1) := by decide +kernel
theorem dX6_likeness_11 : decode cX6_likeness 11 = .ok (.ireturn, 1) := by decide +kernel
theorem dX6_likeness_12 : decode cX6_likeness 12 = .ok (.aload_n 0, 1) := by decide +kernel
theorem dX6_likeness_13 : decode cX6_likeness 13 = .ok (.getfield 12, 3) := by decide +kernel
theorem dX6_likeness_16 : decode cX6_likeness 16 = .ok (.aload_n 0, 1) := by decide +kernel
theorem dX6_likeness_17 : decode cX6_likeness 17 = .ok (.getfield 70, 3) := by decide +kernel
theorem dX6_likeness_20 : decode cX6_likeness 20 = .ok (.invokevirtual 139, 3) := by decide +kernel
theorem dX6_likeness_23 : decode cX6_likeness 23 = .ok (.aload_n 0, 1) := by decide +kernel
theorem dX6_likeness_24 : decode cX6_likeness 24 = .ok (.getfield 12, 3) := by decide +kernel
theorem dX6_likeness_27 : decode cX6_likeness 27 = .ok (.aload_n 0, 1) := by decide +kernel
theorem dX6_likeness_28 : decode cX6_likeness 28 = .ok (.getfield 55, 3) := by decide +kernel
theorem dX6_likeness_31 : decode cX6_likeness 31 = .ok (.iload_n 1, 1) := by decide +kernel
theorem dX6_likeness_32 : decode cX6_likeness 32 = .ok (.iaload, 1) := by decide +kernel
theorem dX6_likeness_33 : decode cX6_likeness 33 = .ok (.invokevirtual 139, 3) := by decide +kernel
theorem dX6_likeness_36 : decode cX6_likeness 36 = .ok (.ixor, 1) := by decide +kernel
theorem dX6_likeness_37 : decode cX6_likeness 37 = .ok (.invokestatic 134, 3) := by decide +kernel
theorem dX6_likeness_40 : decode cX6_likeness 40 = .ok (.ireturn, 1) := by decide +kernel
theorem dX6_keep_0 : decode cX6_keep 0 = .ok (.iload_n 1, 1) := by decide +kernel
theorem dX6_keep_1 : decode cX6_keep 1 = .ok (.invokestatic 211, 3) := by decide +kernel
theorem dX6_keep_4 : decode cX6_keep 4 = .ok (.ifCond .ne 5, 3) := by decide +kernel
theorem dX6_keep_7 : decode cX6_keep 7 = .ok (.iconst (-1), 1) := by decide +kernel
theorem dX6_keep_8 : decode cX6_keep 8 = .ok (.ireturn, 1) := by decide +kernel
theorem dX6_keep_9 : decode cX6_keep 9 = .ok (.aload_n 0, 1) := by decide +kernel
theorem dX6_keep_10 : decode cX6_keep 10 = .ok (.getfield 55, 3) := by decide +kernel
theorem dX6_keep_13 : decode cX6_keep 13 = .ok (.iload_n 1, 1) := by decide +kernel
theorem dX6_keep_14 : decode cX6_keep 14 = .ok (.aload_n 0, 1) := by decide +kernel
theorem dX6_keep_15 : decode cX6_keep 15 = .ok (.getfield 70, 3) := by decide +kernel
theorem dX6_keep_18 : decode cX6_keep 18 = .ok (.iastore, 1) := by decide +kernel
theorem dX6_keep_19 : decode cX6_keep 19 = .ok (.aload_n 0, 1) := by decide +kernel
theorem dX6_keep_20 : decode cX6_keep 20 = .ok (.getfield 12, 3) := by decide +kernel
theorem dX6_keep_23 : decode cX6_keep 23 = .ok (.aload_n 0, 1) := by decide +kernel
theorem dX6_keep_24 : decode cX6_keep 24 = .ok (.getfield 70, 3) := by decide +kernel
theorem dX6_keep_27 : decode cX6_keep 27 = .ok (.invokevirtual 115, 3) := by decide +kernel
theorem dX6_keep_30 : decode cX6_keep 30 = .ok (.ireturn, 1) := by decide +kernel
theorem dX6_lay_0 : decode cX6_lay 0 = .ok (.aload_n 0, 1) := by decide +kernel
theorem dX6_lay_1 : decode cX6_lay 1 = .ok (.iload_n 1, 1) := by decide +kernel
theorem dX6_lay_2 : decode cX6_lay 2 = .ok (.invokevirtual 214, 3) := by decide +kernel
theorem dX6_lay_5 : decode cX6_lay 5 = .ok (.istore_n 2, 1) := by decide +kernel
theorem dX6_lay_6 : decode cX6_lay 6 = .ok (.iload_n 2, 1) := by decide +kernel
theorem dX6_lay_7 : decode cX6_lay 7 = .ok (.ifCond .eq 5, 3) := by decide +kernel
theorem dX6_lay_10 : decode cX6_lay 10 = .ok (.iload_n 2, 1) := by decide +kernel
theorem dX6_lay_11 : decode cX6_lay 11 = .ok (.ireturn, 1) := by decide +kernel
theorem dX6_lay_12 : decode cX6_lay 12 = .ok (.aload_n 0, 1) := by decide +kernel
theorem dX6_lay_13 : decode cX6_lay 13 = .ok (.aload_n 0, 1) := by decide +kernel
theorem dX6_lay_14 : decode cX6_lay 14 = .ok (.getfield 55, 3) := by decide +kernel
theorem dX6_lay_17 : decode cX6_lay 17 = .ok (.iload_n 1, 1) := by decide +kernel
theorem dX6_lay_18 : decode cX6_lay 18 = .ok (.iaload, 1) := by decide +kernel
theorem dX6_lay_19 : decode cX6_lay 19 = .ok (.invokevirtual 118, 3) := by decide +kernel
theorem dX6_lay_22 : decode cX6_lay 22 = .ok (.aload_n 0, 1) := by decide +kernel
theorem dX6_lay_23 : decode cX6_lay 23 = .ok (.invokevirtual 77, 3) := by decide +kernel
theorem dX6_lay_26 : decode cX6_lay 26 = .ok (.ireturn, 1) := by decide +kernel
theorem dX6_lose_0 : decode cX6_lose 0 = .ok (.aload_n 0, 1) := by decide +kernel
theorem dX6_lose_1 : decode cX6_lose 1 = .ok (.iload_n 1, 1) := by decide +kernel
theorem dX6_lose_2 : decode cX6_lose 2 = .ok (.invokevirtual 214, 3) := by decide +kernel
theorem dX6_lose_5 : decode cX6_lose 5 = .ok (.istore_n 2, 1) := by decide +kernel
theorem dX6_lose_6 : decode cX6_lose 6 = .ok (.iload_n 2, 1) := by decide +kernel
theorem dX6_lose_7 : decode cX6_lose 7 = .ok (.ifCond .eq 5, 3) := by decide +kernel
theorem dX6_lose_10 : decode cX6_lose 10 = .ok (.iload_n 2, 1) := by decide +kernel
theorem dX6_lose_11 : decode cX6_lose 11 = .ok (.ireturn, 1) := by decide +kernel
theorem dX6_lose_12 : decode cX6_lose 12 = .ok (.aload_n 0, 1) := by decide +kernel
theorem dX6_lose_13 : decode cX6_lose 13 = .ok (.getfield 12, 3) := by decide +kernel
theorem dX6_lose_16 : decode cX6_lose 16 = .ok (.aload_n 0, 1) := by decide +kernel
theorem dX6_lose_17 : decode cX6_lose 17 = .ok (.getfield 55, 3) := by decide +kernel
theorem dX6_lose_20 : decode cX6_lose 20 = .ok (.iload_n 1, 1) := by decide +kernel
theorem dX6_lose_21 : decode cX6_lose 21 = .ok (.iaload, 1) := by decide +kernel
theorem dX6_lose_22 : decode cX6_lose 22 = .ok (.invokevirtual 162, 3) := by decide +kernel
theorem dX6_lose_25 : decode cX6_lose 25 = .ok (.istore_n 3, 1) := by decide +kernel
theorem dX6_lose_26 : decode cX6_lose 26 = .ok (.aload_n 0, 1) := by decide +kernel
theorem dX6_lose_27 : decode cX6_lose 27 = .ok (.getfield 55, 3) := by decide +kernel
theorem dX6_lose_30 : decode cX6_lose 30 = .ok (.iload_n 1, 1) := by decide +kernel
theorem dX6_lose_31 : decode cX6_lose 31 = .ok (.iconst 0, 1) := by decide +kernel
theorem dX6_lose_32 : decode cX6_lose 32 = .ok (.iastore, 1) := by decide +kernel
theorem dX6_lose_33 : decode cX6_lose 33 = .ok (.iload_n 3, 1) := by decide +kernel
theorem dX6_lose_34 : decode cX6_lose 34 = .ok (.ireturn, 1) := by decide +kernel
theorem dX6_over_0 : decode cX6_over 0 = .ok (.aload_n 0, 1) := by decide +kernel
theorem dX6_over_1 : decode cX6_over 1 = .ok (.iload_n 1, 1) := by decide +kernel
theorem dX6_over_2 : decode cX6_over 2 = .ok (.invokevirtual 217, 3) := by decide +kernel
theorem dX6_over_5 : decode cX6_over 5 = .ok (.istore_n 2, 1) := by decide +kernel
theorem dX6_over_6 : decode cX6_over 6 = .ok (.iload_n 2, 1) := by decide +kernel
theorem dX6_over_7 : decode cX6_over 7 = .ok (.ifCond .eq 5, 3) := by decide +kernel
theorem dX6_over_10 : decode cX6_over 10 = .ok (.iload_n 2, 1) := by decide +kernel
theorem dX6_over_11 : decode cX6_over 11 = .ok (.ireturn, 1) := by decide +kernel
theorem dX6_over_12 : decode cX6_over 12 = .ok (.aload_n 0, 1) := by decide +kernel
theorem dX6_over_13 : decode cX6_over 13 = .ok (.aload_n 0, 1) := by decide +kernel
theorem dX6_over_14 : decode cX6_over 14 = .ok (.getfield 12, 3) := by decide +kernel
theorem dX6_over_17 : decode cX6_over 17 = .ok (.aload_n 0, 1) := by decide +kernel
theorem dX6_over_18 : decode cX6_over 18 = .ok (.getfield 55, 3) := by decide +kernel
theorem dX6_over_21 : decode cX6_over 21 = .ok (.iload_n 1, 1) := by decide +kernel
theorem dX6_over_22 : decode cX6_over 22 = .ok (.iaload, 1) := by decide +kernel
theorem dX6_over_23 : decode cX6_over 23 = .ok (.aload_n 0, 1) := by decide +kernel
theorem dX6_over_24 : decode cX6_over 24 = .ok (.getfield 70, 3) := by decide +kernel
theorem dX6_over_27 : decode cX6_over 27 = .ok (.invokevirtual 220, 3) := by decide +kernel
theorem dX6_over_30 : decode cX6_over 30 = .ok (.invokevirtual 118, 3) := by decide +kernel
theorem dX6_over_33 : decode cX6_over 33 = .ok (.aload_n 0, 1) := by decide +kernel
theorem dX6_over_34 : decode cX6_over 34 = .ok (.invokevirtual 77, 3) := by decide +kernel
theorem dX6_over_37 : decode cX6_over 37 = .ok (.ireturn, 1) := by decide +kernel
theorem dX6_under_0 : decode cX6_under 0 = .ok (.aload_n 0, 1) := by decide +kernel
theorem dX6_under_1 : decode cX6_under 1 = .ok (.iload_n 1, 1) := by decide +kernel
theorem dX6_under_2 : decode cX6_under 2 = .ok (.invokevirtual 217, 3) := by decide +kernel
theorem dX6_under_5 : decode cX6_under 5 = .ok (.istore_n 2, 1) := by decide +kernel
theorem dX6_under_6 : decode cX6_under 6 = .ok (.iload_n 2, 1) := by decide +kernel
theorem dX6_under_7 : decode cX6_under 7 = .ok (.ifCond .eq 5, 3) := by decide +kernel
theorem dX6_under_10 : decode cX6_under 10 = .ok (.iload_n 2, 1) := by decide +kernel
theorem dX6_under_11 : decode cX6_under 11 = .ok (.ireturn, 1) := by decide +kernel
theorem dX6_under_12 : decode cX6_under 12 = .ok (.aload_n 0, 1) := by decide +kernel
theorem dX6_under_13 : decode cX6_under 13 = .ok (.aload_n 0, 1) := by decide +kernel
theorem dX6_under_14 : decode cX6_under 14 = .ok (.getfield 12, 3) := by decide +kernel
theorem dX6_under_17 : decode cX6_under 17 = .ok (.aload_n 0, 1) := by decide +kernel
theorem dX6_under_18 : decode cX6_under 18 = .ok (.getfield 70, 3) := by decide +kernel
theorem dX6_under_21 : decode cX6_under 21 = .ok (.aload_n 0, 1) := by decide +kernel
theorem dX6_under_22 : decode cX6_under 22 = .ok (.getfield 55, 3) := by decide +kernel
theorem dX6_under_25 : decode cX6_under 25 = .ok (.iload_n 1, 1) := by decide +kernel
theorem dX6_under_26 : decode cX6_under 26 = .ok (.iaload, 1) := by decide +kernel
theorem dX6_under_27 : decode cX6_under 27 = .ok (.invokevirtual 223, 3) := by decide +kernel
theorem dX6_under_30 : decode cX6_under 30 = .ok (.invokevirtual 118, 3) := by decide +kernel
theorem dX6_under_33 : decode cX6_under 33 = .ok (.aload_n 0, 1) := by decide +kernel
theorem dX6_under_34 : decode cX6_under 34 = .ok (.invokevirtual 77, 3) := by decide +kernel
theorem dX6_under_37 : decode cX6_under 37 = .ok (.ireturn, 1) := by decide +kernel
theorem dX6_shelf_0 : decode cX6_shelf 0 = .ok (.iload_n 2, 1) := by decide +kernel
theorem dX6_shelf_1 : decode cX6_shelf 1 = .ok (.ifCond .lt 8, 3) := by decide +kernel
theorem dX6_shelf_4 : decode cX6_shelf 4 = .ok (.iload_n 2, 1) := by decide +kernel
theorem dX6_shelf_5 : decode cX6_shelf 5 = .ok (.iconst 2, 1) := by decide +kernel
theorem dX6_shelf_6 : decode cX6_shelf 6 = .ok (.if_icmp .le 5, 3) := by decide +kernel
theorem dX6_shelf_9 : decode cX6_shelf 9 = .ok (.iconst (-1), 1) := by decide +kernel
theorem dX6_shelf_10 : decode cX6_shelf 10 = .ok (.ireturn, 1) := by decide +kernel
theorem dX6_shelf_11 : decode cX6_shelf 11 = .ok (.aload_n 0, 1) := by decide +kernel
theorem dX6_shelf_12 : decode cX6_shelf 12 = .ok (.iload_n 1, 1) := by decide +kernel
theorem dX6_shelf_13 : decode cX6_shelf 13 = .ok (.invokevirtual 214, 3) := by decide +kernel
theorem dX6_shelf_16 : decode cX6_shelf 16 = .ok (.istore_n 3, 1) := by decide +kernel
theorem dX6_shelf_17 : decode cX6_shelf 17 = .ok (.iload_n 3, 1) := by decide +kernel
theorem dX6_shelf_18 : decode cX6_shelf 18 = .ok (.ifCond .eq 5, 3) := by decide +kernel
theorem dX6_shelf_21 : decode cX6_shelf 21 = .ok (.iload_n 3, 1) := by decide +kernel
theorem dX6_shelf_22 : decode cX6_shelf 22 = .ok (.ireturn, 1) := by decide +kernel
theorem dX6_shelf_23 : decode cX6_shelf 23 = .ok (.iload_n 2, 1) := by decide +kernel
theorem dX6_shelf_24 : decode cX6_shelf 24 = .ok (.lookupswitch 56 #[(0, 28), (1, 42)], 28) := by decide +kernel
theorem dX6_shelf_52 : decode cX6_shelf 52 = .ok (.aload_n 0, 1) := by decide +kernel
theorem dX6_shelf_53 : decode cX6_shelf 53 = .ok (.getfield 12, 3) := by decide +kernel
theorem dX6_shelf_56 : decode cX6_shelf 56 = .ok (.aload_n 0, 1) := by decide +kernel
theorem dX6_shelf_57 : decode cX6_shelf 57 = .ok (.getfield 55, 3) := by decide +kernel
theorem dX6_shelf_60 : decode cX6_shelf 60 = .ok (.iload_n 1, 1) := by decide +kernel
theorem dX6_shelf_61 : decode cX6_shelf 61 = .ok (.iaload, 1) := by decide +kernel
theorem dX6_shelf_62 : decode cX6_shelf 62 = .ok (.invokevirtual 162, 3) := by decide +kernel
theorem dX6_shelf_65 : decode cX6_shelf 65 = .ok (.ireturn, 1) := by decide +kernel
theorem dX6_shelf_66 : decode cX6_shelf 66 = .ok (.aload_n 0, 1) := by decide +kernel
theorem dX6_shelf_67 : decode cX6_shelf 67 = .ok (.getfield 12, 3) := by decide +kernel
theorem dX6_shelf_70 : decode cX6_shelf 70 = .ok (.aload_n 0, 1) := by decide +kernel
theorem dX6_shelf_71 : decode cX6_shelf 71 = .ok (.getfield 55, 3) := by decide +kernel
theorem dX6_shelf_74 : decode cX6_shelf 74 = .ok (.iload_n 1, 1) := by decide +kernel
theorem dX6_shelf_75 : decode cX6_shelf 75 = .ok (.iaload, 1) := by decide +kernel
theorem dX6_shelf_76 : decode cX6_shelf 76 = .ok (.invokevirtual 115, 3) := by decide +kernel
theorem dX6_shelf_79 : decode cX6_shelf 79 = .ok (.ireturn, 1) := by decide +kernel
theorem dX6_shelf_80 : decode cX6_shelf 80 = .ok (.aload_n 0, 1) := by decide +kernel
theorem dX6_shelf_81 : decode cX6_shelf 81 = .ok (.getfield 12, 3) := by decide +kernel
theorem dX6_shelf_84 : decode cX6_shelf 84 = .ok (.aload_n 0, 1) := by decide +kernel
theorem dX6_shelf_85 : decode cX6_shelf 85 = .ok (.getfield 55, 3) := by decide +kernel
theorem dX6_shelf_88 : decode cX6_shelf 88 = .ok (.iload_n 1, 1) := by decide +kernel
theorem dX6_shelf_89 : decode cX6_shelf 89 = .ok (.iaload, 1) := by decide +kernel
theorem dX6_shelf_90 : decode cX6_shelf 90 = .ok (.invokevirtual 122, 3) := by decide +kernel
theorem dX6_shelf_93 : decode cX6_shelf 93 = .ok (.ireturn, 1) := by decide +kernel
theorem dX6_list_0 : decode cX6_list 0 = .ok (.iload_n 1, 1) := by decide +kernel
theorem dX6_list_1 : decode cX6_list 1 = .ok (.invokestatic 226, 3) := by decide +kernel
theorem dX6_list_4 : decode cX6_list 4 = .ok (.ifCond .ne 5, 3) := by decide +kernel
theorem dX6_list_7 : decode cX6_list 7 = .ok (.iconst (-1), 1) := by decide +kernel
theorem dX6_list_8 : decode cX6_list 8 = .ok (.ireturn, 1) := by decide +kernel
theorem dX6_list_9 : decode cX6_list 9 = .ok (.iload_n 2, 1) := by decide +kernel
theorem dX6_list_10 : decode cX6_list 10 = .ok (.bipush 20, 2) := by decide +kernel
theorem dX6_list_12 : decode cX6_list 12 = .ok (.if_icmp .le 6, 3) := by decide +kernel
theorem dX6_list_15 : decode cX6_list 15 = .ok (.bipush (-2), 2) := by decide +kernel
theorem dX6_list_17 : decode cX6_list 17 = .ok (.ireturn, 1) := by decide +kernel
theorem dX6_list_18 : decode cX6_list 18 = .ok (.iload_n 2, 1) := by decide +kernel
theorem dX6_list_19 : decode cX6_list 19 = .ok (.iconst (-1), 1) := by decide +kernel
theorem dX6_list_20 : decode cX6_list 20 = .ok (.if_icmp .ge 6, 3) := by decide +kernel
theorem dX6_list_23 : decode cX6_list 23 = .ok (.bipush (-14), 2) := by decide +kernel
theorem dX6_list_25 : decode cX6_list 25 = .ok (.ireturn, 1) := by decide +kernel
theorem dX6_list_26 : decode cX6_list 26 = .ok (.aload_n 0, 1) := by decide +kernel
theorem dX6_list_27 : decode cX6_list 27 = .ok (.getfield 44, 3) := by decide +kernel
theorem dX6_list_30 : decode cX6_list 30 = .ok (.iload_n 1, 1) := by decide +kernel
theorem dX6_list_31 : decode cX6_list 31 = .ok (.iload_n 2, 1) := by decide +kernel
theorem dX6_list_32 : decode cX6_list 32 = .ok (.invokevirtual 229, 3) := by decide +kernel
theorem dX6_list_35 : decode cX6_list 35 = .ok (.iconst 1, 1) := by decide +kernel
theorem dX6_list_36 : decode cX6_list 36 = .ok (.ireturn, 1) := by decide +kernel
theorem dX6_put_0 : decode cX6_put 0 = .ok (.iload_n 1, 1) := by decide +kernel
theorem dX6_put_1 : decode cX6_put 1 = .ok (.invokestatic 226, 3) := by decide +kernel
theorem dX6_put_4 : decode cX6_put 4 = .ok (.ifCond .ne 5, 3) := by decide +kernel
theorem dX6_put_7 : decode cX6_put 7 = .ok (.iconst (-1), 1) := by decide +kernel
theorem dX6_put_8 : decode cX6_put 8 = .ok (.ireturn, 1) := by decide +kernel
theorem dX6_put_9 : decode cX6_put 9 = .ok (.aload_n 0, 1) := by decide +kernel
theorem dX6_put_10 : decode cX6_put 10 = .ok (.getfield 44, 3) := by decide +kernel
theorem dX6_put_13 : decode cX6_put 13 = .ok (.iload_n 1, 1) := by decide +kernel
theorem dX6_put_14 : decode cX6_put 14 = .ok (.invokevirtual 233, 3) := by decide +kernel
theorem dX6_put_17 : decode cX6_put 17 = .ok (.ifCond .ne 6, 3) := by decide +kernel
theorem dX6_put_20 : decode cX6_put 20 = .ok (.bipush (-11), 2) := by decide +kernel
theorem dX6_put_22 : decode cX6_put 22 = .ok (.ireturn, 1) := by decide +kernel
theorem dX6_put_23 : decode cX6_put 23 = .ok (.aload_n 0, 1) := by decide +kernel
theorem dX6_put_24 : decode cX6_put 24 = .ok (.getfield 44, 3) := by decide +kernel
theorem dX6_put_27 : decode cX6_put 27 = .ok (.iload_n 1, 1) := by decide +kernel
theorem dX6_put_28 : decode cX6_put 28 = .ok (.iload_n 2, 1) := by decide +kernel
theorem dX6_put_29 : decode cX6_put 29 = .ok (.invokevirtual 236, 3) := by decide +kernel
theorem dX6_put_32 : decode cX6_put 32 = .ok (.ifCond .ne 6, 3) := by decide +kernel
theorem dX6_put_35 : decode cX6_put 35 = .ok (.bipush (-13), 2) := by decide +kernel
theorem dX6_put_37 : decode cX6_put 37 = .ok (.ireturn, 1) := by decide +kernel
theorem dX6_put_38 : decode cX6_put 38 = .ok (.aload_n 0, 1) := by decide +kernel
theorem dX6_put_39 : decode cX6_put 39 = .ok (.getfield 44, 3) := by decide +kernel
theorem dX6_put_42 : decode cX6_put 42 = .ok (.iload_n 1, 1) := by decide +kernel
theorem dX6_put_43 : decode cX6_put 43 = .ok (.iload_n 2, 1) := by decide +kernel
theorem dX6_put_44 : decode cX6_put 44 = .ok (.lload_n 3, 1) := by decide +kernel
theorem dX6_put_45 : decode cX6_put 45 = .ok (.invokevirtual 239, 3) := by decide +kernel
theorem dX6_put_48 : decode cX6_put 48 = .ok (.iconst 1, 1) := by decide +kernel
theorem dX6_put_49 : decode cX6_put 49 = .ok (.ireturn, 1) := by decide +kernel
theorem dX6_get_0 : decode cX6_get 0 = .ok (.aload_n 0, 1) := by decide +kernel
theorem dX6_get_1 : decode cX6_get 1 = .ok (.getfield 44, 3) := by decide +kernel
theorem dX6_get_4 : decode cX6_get 4 = .ok (.iload_n 1, 1) := by decide +kernel
theorem dX6_get_5 : decode cX6_get 5 = .ok (.iload_n 2, 1) := by decide +kernel
theorem dX6_get_6 : decode cX6_get 6 = .ok (.invokevirtual 236, 3) := by decide +kernel
theorem dX6_get_9 : decode cX6_get 9 = .ok (.ifCond .eq 15, 3) := by decide +kernel
theorem dX6_get_12 : decode cX6_get 12 = .ok (.aload_n 0, 1) := by decide +kernel
theorem dX6_get_13 : decode cX6_get 13 = .ok (.getfield 44, 3) := by decide +kernel
theorem dX6_get_16 : decode cX6_get 16 = .ok (.iload_n 1, 1) := by decide +kernel
theorem dX6_get_17 : decode cX6_get 17 = .ok (.iload_n 2, 1) := by decide +kernel
theorem dX6_get_18 : decode cX6_get 18 = .ok (.invokevirtual 243, 3) := by decide +kernel
theorem dX6_get_21 : decode cX6_get 21 = .ok (.goto 6, 3) := by decide +kernel
theorem dX6_get_24 : decode cX6_get 24 = .ok (.ldc2_w 247, 3) := by decide +kernel
theorem dX6_get_27 : decode cX6_get 27 = .ok (.lreturn, 1) := by decide +kernel
theorem dX6_play_0 : decode cX6_play 0 = .ok (.iload_n 1, 1) := by decide +kernel
theorem dX6_play_1 : decode cX6_play 1 = .ok (.invokestatic 226, 3) := by decide +kernel
theorem dX6_play_4 : decode cX6_play 4 = .ok (.ifCond .ne 5, 3) := by decide +kernel
theorem dX6_play_7 : decode cX6_play 7 = .ok (.iconst (-1), 1) := by decide +kernel
theorem dX6_play_8 : decode cX6_play 8 = .ok (.ireturn, 1) := by decide +kernel
theorem dX6_play_9 : decode cX6_play 9 = .ok (.aload_n 0, 1) := by decide +kernel
theorem dX6_play_10 : decode cX6_play 10 = .ok (.getfield 44, 3) := by decide +kernel
theorem dX6_play_13 : decode cX6_play 13 = .ok (.iload_n 1, 1) := by decide +kernel
theorem dX6_play_14 : decode cX6_play 14 = .ok (.invokevirtual 233, 3) := by decide +kernel
theorem dX6_play_17 : decode cX6_play 17 = .ok (.ifCond .ne 6, 3) := by decide +kernel
theorem dX6_play_20 : decode cX6_play 20 = .ok (.bipush (-11), 2) := by decide +kernel
theorem dX6_play_22 : decode cX6_play 22 = .ok (.ireturn, 1) := by decide +kernel
theorem dX6_play_23 : decode cX6_play 23 = .ok (.aload_n 0, 1) := by decide +kernel
theorem dX6_play_24 : decode cX6_play 24 = .ok (.getfield 44, 3) := by decide +kernel
theorem dX6_play_27 : decode cX6_play 27 = .ok (.iload_n 1, 1) := by decide +kernel
theorem dX6_play_28 : decode cX6_play 28 = .ok (.invokevirtual 249, 3) := by decide +kernel
theorem dX6_play_31 : decode cX6_play 31 = .ok (.istore_n 2, 1) := by decide +kernel
theorem dX6_play_32 : decode cX6_play 32 = .ok (.iconst 0, 1) := by decide +kernel
theorem dX6_play_33 : decode cX6_play 33 = .ok (.istore_n 3, 1) := by decide +kernel
theorem dX6_play_34 : decode cX6_play 34 = .ok (.iload_n 3, 1) := by decide +kernel
theorem dX6_play_35 : decode cX6_play 35 = .ok (.iload_n 2, 1) := by decide +kernel
theorem dX6_play_36 : decode cX6_play 36 = .ok (.if_icmp .ge 44, 3) := by decide +kernel
theorem dX6_play_39 : decode cX6_play 39 = .ok (.aload_n 0, 1) := by decide +kernel
theorem dX6_play_40 : decode cX6_play 40 = .ok (.getfield 12, 3) := by decide +kernel
theorem dX6_play_43 : decode cX6_play 43 = .ok (.aload_n 0, 1) := by decide +kernel
theorem dX6_play_44 : decode cX6_play 44 = .ok (.getfield 70, 3) := by decide +kernel
theorem dX6_play_47 : decode cX6_play 47 = .ok (.aload_n 0, 1) := by decide +kernel
theorem dX6_play_48 : decode cX6_play 48 = .ok (.getfield 44, 3) := by decide +kernel
theorem dX6_play_51 : decode cX6_play 51 = .ok (.iload_n 1, 1) := by decide +kernel
theorem dX6_play_52 : decode cX6_play 52 = .ok (.iload_n 3, 1) := by decide +kernel
theorem dX6_play_53 : decode cX6_play 53 = .ok (.invokevirtual 243, 3) := by decide +kernel
theorem dX6_play_56 : decode cX6_play 56 = .ok (.invokevirtual 252, 3) := by decide +kernel
theorem dX6_play_59 : decode cX6_play 59 = .ok (.istore 4, 2) := by decide +kernel
theorem dX6_play_61 : decode cX6_play 61 = .ok (.iload 4, 2) := by decide +kernel
theorem dX6_play_63 : decode cX6_play 63 = .ok (.ifCond .ne 5, 3) := by decide +kernel
theorem dX6_play_66 : decode cX6_play 66 = .ok (.iload_n 3, 1) := by decide +kernel
theorem dX6_play_67 : decode cX6_play 67 = .ok (.ireturn, 1) := by decide +kernel
theorem dX6_play_68 : decode cX6_play 68 = .ok (.aload_n 0, 1) := by decide +kernel
theorem dX6_play_69 : decode cX6_play 69 = .ok (.iload 4, 2) := by decide +kernel
theorem dX6_play_71 : decode cX6_play 71 = .ok (.invokevirtual 118, 3) := by decide +kernel
theorem dX6_play_74 : decode cX6_play 74 = .ok (.iinc 3 1, 3) := by decide +kernel
theorem dX6_play_77 : decode cX6_play 77 = .ok (.goto (-43), 3) := by decide +kernel
theorem dX6_play_80 : decode cX6_play 80 = .ok (.iload_n 2, 1) := by decide +kernel
theorem dX6_play_81 : decode cX6_play 81 = .ok (.ireturn, 1) := by decide +kernel
theorem dX6_film_0 : decode cX6_film 0 = .ok (.iload_n 1, 1) := by decide +kernel
theorem dX6_film_1 : decode cX6_film 1 = .ok (.invokestatic 226, 3) := by decide +kernel
theorem dX6_film_4 : decode cX6_film 4 = .ok (.ifCond .ne 5, 3) := by decide +kernel
theorem dX6_film_7 : decode cX6_film 7 = .ok (.iconst (-1), 1) := by decide +kernel
theorem dX6_film_8 : decode cX6_film 8 = .ok (.ireturn, 1) := by decide +kernel
theorem dX6_film_9 : decode cX6_film 9 = .ok (.aload_n 0, 1) := by decide +kernel
theorem dX6_film_10 : decode cX6_film 10 = .ok (.iload_n 2, 1) := by decide +kernel
theorem dX6_film_11 : decode cX6_film 11 = .ok (.invokevirtual 165, 3) := by decide +kernel
theorem dX6_film_14 : decode cX6_film 14 = .ok (.istore_n 3, 1) := by decide +kernel
theorem dX6_film_15 : decode cX6_film 15 = .ok (.iload_n 3, 1) := by decide +kernel
theorem dX6_film_16 : decode cX6_film 16 = .ok (.ifCond .eq 5, 3) := by decide +kernel
theorem dX6_film_19 : decode cX6_film 19 = .ok (.iload_n 3, 1) := by decide +kernel
theorem dX6_film_20 : decode cX6_film 20 = .ok (.ireturn, 1) := by decide +kernel
theorem dX6_film_21 : decode cX6_film 21 = .ok (.aload_n 0, 1) := by decide +kernel
theorem dX6_film_22 : decode cX6_film 22 = .ok (.getfield 30, 3) := by decide +kernel
theorem dX6_film_25 : decode cX6_film 25 = .ok (.aload_n 0, 1) := by decide +kernel
theorem dX6_film_26 : decode cX6_film 26 = .ok (.getfield 55, 3) := by decide +kernel
theorem dX6_film_29 : decode cX6_film 29 = .ok (.iload_n 2, 1) := by decide +kernel
theorem dX6_film_30 : decode cX6_film 30 = .ok (.iaload, 1) := by decide +kernel
theorem dX6_film_31 : decode cX6_film 31 = .ok (.invokevirtual 175, 3) := by decide +kernel
theorem dX6_film_34 : decode cX6_film 34 = .ok (.aload_n 0, 1) := by decide +kernel
theorem dX6_film_35 : decode cX6_film 35 = .ok (.getfield 30, 3) := by decide +kernel
theorem dX6_film_38 : decode cX6_film 38 = .ok (.aload_n 0, 1) := by decide +kernel
theorem dX6_film_39 : decode cX6_film 39 = .ok (.getfield 70, 3) := by decide +kernel
theorem dX6_film_42 : decode cX6_film 42 = .ok (.invokevirtual 178, 3) := by decide +kernel
theorem dX6_film_45 : decode cX6_film 45 = .ok (.istore 4, 2) := by decide +kernel
theorem dX6_film_47 : decode cX6_film 47 = .ok (.iload 4, 2) := by decide +kernel
theorem dX6_film_49 : decode cX6_film 49 = .ok (.bipush 20, 2) := by decide +kernel
theorem dX6_film_51 : decode cX6_film 51 = .ok (.if_icmp .le 6, 3) := by decide +kernel
theorem dX6_film_54 : decode cX6_film 54 = .ok (.bipush (-4), 2) := by decide +kernel
theorem dX6_film_56 : decode cX6_film 56 = .ok (.ireturn, 1) := by decide +kernel
theorem dX6_film_57 : decode cX6_film 57 = .ok (.aload_n 0, 1) := by decide +kernel
theorem dX6_film_58 : decode cX6_film 58 = .ok (.getfield 44, 3) := by decide +kernel
theorem dX6_film_61 : decode cX6_film 61 = .ok (.iload_n 1, 1) := by decide +kernel
theorem dX6_film_62 : decode cX6_film 62 = .ok (.iload 4, 2) := by decide +kernel
theorem dX6_film_64 : decode cX6_film 64 = .ok (.invokevirtual 229, 3) := by decide +kernel
theorem dX6_film_67 : decode cX6_film 67 = .ok (.aload_n 0, 1) := by decide +kernel
theorem dX6_film_68 : decode cX6_film 68 = .ok (.getfield 70, 3) := by decide +kernel
theorem dX6_film_71 : decode cX6_film 71 = .ok (.istore 5, 2) := by decide +kernel
theorem dX6_film_73 : decode cX6_film 73 = .ok (.iconst 0, 1) := by decide +kernel
theorem dX6_film_74 : decode cX6_film 74 = .ok (.istore 6, 2) := by decide +kernel
theorem dX6_film_76 : decode cX6_film 76 = .ok (.iload 6, 2) := by decide +kernel
theorem dX6_film_78 : decode cX6_film 78 = .ok (.iload 4, 2) := by decide +kernel
theorem dX6_film_80 : decode cX6_film 80 = .ok (.if_icmp .ge 47, 3) := by decide +kernel
theorem dX6_film_83 : decode cX6_film 83 = .ok (.aload_n 0, 1) := by decide +kernel
theorem dX6_film_84 : decode cX6_film 84 = .ok (.getfield 30, 3) := by decide +kernel
theorem dX6_film_87 : decode cX6_film 87 = .ok (.iload 5, 2) := by decide +kernel
theorem dX6_film_89 : decode cX6_film 89 = .ok (.invokevirtual 181, 3) := by decide +kernel
theorem dX6_film_92 : decode cX6_film 92 = .ok (.istore 7, 2) := by decide +kernel
theorem dX6_film_94 : decode cX6_film 94 = .ok (.aload_n 0, 1) := by decide +kernel
theorem dX6_film_95 : decode cX6_film 95 = .ok (.getfield 44, 3) := by decide +kernel
theorem dX6_film_98 : decode cX6_film 98 = .ok (.iload_n 1, 1) := by decide +kernel
theorem dX6_film_99 : decode cX6_film 99 = .ok (.iload 6, 2) := by decide +kernel
theorem dX6_film_101 : decode cX6_film 101 = .ok (.iload 7, 2) := by decide +kernel
theorem dX6_film_103 : decode cX6_film 103 = .ok (.i2l, 1) := by decide +kernel
theorem dX6_film_104 : decode cX6_film 104 = .ok (.invokevirtual 239, 3) := by decide +kernel
theorem dX6_film_107 : decode cX6_film 107 = .ok (.aload_n 0, 1) := by decide +kernel
theorem dX6_film_108 : decode cX6_film 108 = .ok (.getfield 12, 3) := by decide +kernel
theorem dX6_film_111 : decode cX6_film 111 = .ok (.iload 5, 2) := by decide +kernel
theorem dX6_film_113 : decode cX6_film 113 = .ok (.iload 7, 2) := by decide +kernel
theorem dX6_film_115 : decode cX6_film 115 = .ok (.i2l, 1) := by decide +kernel
theorem dX6_film_116 : decode cX6_film 116 = .ok (.invokevirtual 252, 3) := by decide +kernel
theorem dX6_film_119 : decode cX6_film 119 = .ok (.istore 5, 2) := by decide +kernel
theorem dX6_film_121 : decode cX6_film 121 = .ok (.iinc 6 1, 3) := by decide +kernel
theorem dX6_film_124 : decode cX6_film 124 = .ok (.goto (-48), 3) := by decide +kernel
theorem dX6_film_127 : decode cX6_film 127 = .ok (.iload 4, 2) := by decide +kernel
theorem dX6_film_129 : decode cX6_film 129 = .ok (.ireturn, 1) := by decide +kernel
theorem dX6_feed_0 : decode cX6_feed 0 = .ok (.iload_n 1, 1) := by decide +kernel
theorem dX6_feed_1 : decode cX6_feed 1 = .ok (.bipush 32, 2) := by decide +kernel
theorem dX6_feed_3 : decode cX6_feed 3 = .ok (.if_icmp .lt 9, 3) := by decide +kernel
theorem dX6_feed_6 : decode cX6_feed 6 = .ok (.iload_n 1, 1) := by decide +kernel
theorem dX6_feed_7 : decode cX6_feed 7 = .ok (.bipush 126, 2) := by decide +kernel
theorem dX6_feed_9 : decode cX6_feed 9 = .ok (.if_icmp .le 6, 3) := by decide +kernel
theorem dX6_feed_12 : decode cX6_feed 12 = .ok (.bipush (-2), 2) := by decide +kernel
theorem dX6_feed_14 : decode cX6_feed 14 = .ok (.ireturn, 1) := by decide +kernel
theorem dX6_feed_15 : decode cX6_feed 15 = .ok (.aload_n 0, 1) := by decide +kernel
theorem dX6_feed_16 : decode cX6_feed 16 = .ok (.getfield 51, 3) := by decide +kernel
theorem dX6_feed_19 : decode cX6_feed 19 = .ok (.iload_n 1, 1) := by decide +kernel
theorem dX6_feed_20 : decode cX6_feed 20 = .ok (.invokevirtual 256, 3) := by decide +kernel
theorem dX6_feed_23 : decode cX6_feed 23 = .ok (.ifCond .eq 13, 3) := by decide +kernel
theorem dX6_feed_26 : decode cX6_feed 26 = .ok (.aload_n 0, 1) := by decide +kernel
theorem dX6_feed_27 : decode cX6_feed 27 = .ok (.getfield 51, 3) := by decide +kernel
theorem dX6_feed_30 : decode cX6_feed 30 = .ok (.invokevirtual 259, 3) := by decide +kernel
theorem dX6_feed_33 : decode cX6_feed 33 = .ok (.goto 5, 3) := by decide +kernel
theorem dX6_feed_36 : decode cX6_feed 36 = .ok (.bipush (-4), 2) := by decide +kernel
theorem dX6_feed_38 : decode cX6_feed 38 = .ok (.ireturn, 1) := by decide +kernel
theorem dX6_wipe_0 : decode cX6_wipe 0 = .ok (.aload_n 0, 1) := by decide +kernel
theorem dX6_wipe_1 : decode cX6_wipe 1 = .ok (.getfield 51, 3) := by decide +kernel
theorem dX6_wipe_4 : decode cX6_wipe 4 = .ok (.invokevirtual 259, 3) := by decide +kernel
theorem dX6_wipe_7 : decode cX6_wipe 7 = .ok (.istore_n 1, 1) := by decide +kernel
theorem dX6_wipe_8 : decode cX6_wipe 8 = .ok (.aload_n 0, 1) := by decide +kernel
theorem dX6_wipe_9 : decode cX6_wipe 9 = .ok (.getfield 51, 3) := by decide +kernel
theorem dX6_wipe_12 : decode cX6_wipe 12 = .ok (.invokevirtual 262, 3) := by decide +kernel
theorem dX6_wipe_15 : decode cX6_wipe 15 = .ok (.iload_n 1, 1) := by decide +kernel
theorem dX6_wipe_16 : decode cX6_wipe 16 = .ok (.ireturn, 1) := by decide +kernel
theorem dX6_read_0 : decode cX6_read 0 = .ok (.aload_n 0, 1) := by decide +kernel
theorem dX6_read_1 : decode cX6_read 1 = .ok (.getfield 51, 3) := by decide +kernel
theorem dX6_read_4 : decode cX6_read 4 = .ok (.invokevirtual 263, 3) := by decide +kernel
theorem dX6_read_7 : decode cX6_read 7 = .ok (.istore_n 1, 1) := by decide +kernel
theorem dX6_read_8 : decode cX6_read 8 = .ok (.aload_n 0, 1) := by decide +kernel
theorem dX6_read_9 : decode cX6_read 9 = .ok (.getfield 51, 3) := by decide +kernel
theorem dX6_read_12 : decode cX6_read 12 = .ok (.invokevirtual 262, 3) := by decide +kernel
theorem dX6_read_15 : decode cX6_read 15 = .ok (.iload_n 1, 1) := by decide +kernel
theorem dX6_read_16 : decode cX6_read 16 = .ok (.iconst (-1), 1) := by decide +kernel
theorem dX6_read_17 : decode cX6_read 17 = .ok (.if_icmp .eq 8, 3) := by decide +kernel
theorem dX6_read_20 : decode cX6_read 20 = .ok (.bipush (-100), 2) := by decide +kernel
theorem dX6_read_22 : decode cX6_read 22 = .ok (.iload_n 1, 1) := by decide +kernel
theorem dX6_read_23 : decode cX6_read 23 = .ok (.isub, 1) := by decide +kernel
theorem dX6_read_24 : decode cX6_read 24 = .ok (.ireturn, 1) := by decide +kernel
theorem dX6_read_25 : decode cX6_read 25 = .ok (.aload_n 0, 1) := by decide +kernel
theorem dX6_read_26 : decode cX6_read 26 = .ok (.aload_n 0, 1) := by decide +kernel
theorem dX6_read_27 : decode cX6_read 27 = .ok (.getfield 12, 3) := by decide +kernel
theorem dX6_read_30 : decode cX6_read 30 = .ok (.aload_n 0, 1) := by decide +kernel
theorem dX6_read_31 : decode cX6_read 31 = .ok (.getfield 51, 3) := by decide +kernel
theorem dX6_read_34 : decode cX6_read 34 = .ok (.invokevirtual 266, 3) := by decide +kernel
theorem dX6_read_37 : decode cX6_read 37 = .ok (.aload_n 0, 1) := by decide +kernel
theorem dX6_read_38 : decode cX6_read 38 = .ok (.getfield 51, 3) := by decide +kernel
theorem dX6_read_41 : decode cX6_read 41 = .ok (.invokevirtual 269, 3) := by decide +kernel
theorem dX6_read_44 : decode cX6_read 44 = .ok (.invokevirtual 272, 3) := by decide +kernel
theorem dX6_read_47 : decode cX6_read 47 = .ok (.putfield 70, 3) := by decide +kernel
theorem dX6_read_50 : decode cX6_read 50 = .ok (.aload_n 0, 1) := by decide +kernel
theorem dX6_read_51 : decode cX6_read 51 = .ok (.getfield 37, 3) := by decide +kernel
theorem dX6_read_54 : decode cX6_read 54 = .ok (.invokevirtual 81, 3) := by decide +kernel
theorem dX6_read_57 : decode cX6_read 57 = .ok (.aload_n 0, 1) := by decide +kernel
theorem dX6_read_58 : decode cX6_read 58 = .ok (.invokevirtual 77, 3) := by decide +kernel
theorem dX6_read_61 : decode cX6_read 61 = .ok (.ireturn, 1) := by decide +kernel
theorem dX6_written_0 : decode cX6_written 0 = .ok (.iload_n 1, 1) := by decide +kernel
theorem dX6_written_1 : decode cX6_written 1 = .ok (.iconst (-1), 1) := by decide +kernel
theorem dX6_written_2 : decode cX6_written 2 = .ok (.if_icmp .ne 17, 3) := by decide +kernel
theorem dX6_written_5 : decode cX6_written 5 = .ok (.aload_n 0, 1) := by decide +kernel
theorem dX6_written_6 : decode cX6_written 6 = .ok (.getfield 12, 3) := by decide +kernel
theorem dX6_written_9 : decode cX6_written 9 = .ok (.aload_n 0, 1) := by decide +kernel
theorem dX6_written_10 : decode cX6_written 10 = .ok (.getfield 70, 3) := by decide +kernel
theorem dX6_written_13 : decode cX6_written 13 = .ok (.invokevirtual 275, 3) := by decide +kernel
theorem dX6_written_16 : decode cX6_written 16 = .ok (.goto 15, 3) := by decide +kernel
theorem dX6_written_19 : decode cX6_written 19 = .ok (.aload_n 0, 1) := by decide +kernel
theorem dX6_written_20 : decode cX6_written 20 = .ok (.getfield 12, 3) := by decide +kernel
theorem dX6_written_23 : decode cX6_written 23 = .ok (.aload_n 0, 1) := by decide +kernel
theorem dX6_written_24 : decode cX6_written 24 = .ok (.getfield 70, 3) := by decide +kernel
theorem dX6_written_27 : decode cX6_written 27 = .ok (.iload_n 1, 1) := by decide +kernel
theorem dX6_written_28 : decode cX6_written 28 = .ok (.invokevirtual 278, 3) := by decide +kernel
theorem dX6_written_31 : decode cX6_written 31 = .ok (.ireturn, 1) := by decide +kernel
theorem dX6_image_0 : decode cX6_image 0 = .ok (.aload_n 0, 1) := by decide +kernel
theorem dX6_image_1 : decode cX6_image 1 = .ok (.aload_n 0, 1) := by decide +kernel
theorem dX6_image_2 : decode cX6_image 2 = .ok (.getfield 70, 3) := by decide +kernel
theorem dX6_image_5 : decode cX6_image 5 = .ok (.putfield 62, 3) := by decide +kernel
theorem dX6_image_8 : decode cX6_image 8 = .ok (.aload_n 0, 1) := by decide +kernel
theorem dX6_image_9 : decode cX6_image 9 = .ok (.getfield 55, 3) := by decide +kernel
theorem dX6_image_12 : decode cX6_image 12 = .ok (.iconst 0, 1) := by decide +kernel
theorem dX6_image_13 : decode cX6_image 13 = .ok (.aload_n 0, 1) := by decide +kernel
theorem dX6_image_14 : decode cX6_image 14 = .ok (.getfield 59, 3) := by decide +kernel
theorem dX6_image_17 : decode cX6_image 17 = .ok (.iconst 0, 1) := by decide +kernel
theorem dX6_image_18 : decode cX6_image 18 = .ok (.iconst 4, 1) := by decide +kernel
theorem dX6_image_19 : decode cX6_image 19 = .ok (.invokestatic 281, 3) := by decide +kernel
theorem dX6_image_22 : decode cX6_image 22 = .ok (.aload_n 0, 1) := by decide +kernel
theorem dX6_image_23 : decode cX6_image 23 = .ok (.invokevirtual 77, 3) := by decide +kernel
theorem dX6_image_26 : decode cX6_image 26 = .ok (.ireturn, 1) := by decide +kernel
theorem dX6_undo_0 : decode cX6_undo 0 = .ok (.aload_n 0, 1) := by decide +kernel
theorem dX6_undo_1 : decode cX6_undo 1 = .ok (.getfield 62, 3) := by decide +kernel
theorem dX6_undo_4 : decode cX6_undo 4 = .ok (.ifCond .ne 6, 3) := by decide +kernel
theorem dX6_undo_7 : decode cX6_undo 7 = .ok (.bipush (-3), 2) := by decide +kernel
theorem dX6_undo_9 : decode cX6_undo 9 = .ok (.ireturn, 1) := by decide +kernel
theorem dX6_undo_10 : decode cX6_undo 10 = .ok (.aload_n 0, 1) := by decide +kernel
theorem dX6_undo_11 : decode cX6_undo 11 = .ok (.aload_n 0, 1) := by decide +kernel
theorem dX6_undo_12 : decode cX6_undo 12 = .ok (.getfield 62, 3) := by decide +kernel
theorem dX6_undo_15 : decode cX6_undo 15 = .ok (.putfield 70, 3) := by decide +kernel
theorem dX6_undo_18 : decode cX6_undo 18 = .ok (.aload_n 0, 1) := by decide +kernel
theorem dX6_undo_19 : decode cX6_undo 19 = .ok (.getfield 59, 3) := by decide +kernel
theorem dX6_undo_22 : decode cX6_undo 22 = .ok (.iconst 0, 1) := by decide +kernel
theorem dX6_undo_23 : decode cX6_undo 23 = .ok (.aload_n 0, 1) := by decide +kernel
theorem dX6_undo_24 : decode cX6_undo 24 = .ok (.getfield 55, 3) := by decide +kernel
theorem dX6_undo_27 : decode cX6_undo 27 = .ok (.iconst 0, 1) := by decide +kernel
theorem dX6_undo_28 : decode cX6_undo 28 = .ok (.iconst 4, 1) := by decide +kernel
theorem dX6_undo_29 : decode cX6_undo 29 = .ok (.invokestatic 281, 3) := by decide +kernel
theorem dX6_undo_32 : decode cX6_undo 32 = .ok (.aload_n 0, 1) := by decide +kernel
theorem dX6_undo_33 : decode cX6_undo 33 = .ok (.getfield 37, 3) := by decide +kernel
theorem dX6_undo_36 : decode cX6_undo 36 = .ok (.invokevirtual 81, 3) := by decide +kernel
theorem dX6_undo_39 : decode cX6_undo 39 = .ok (.aload_n 0, 1) := by decide +kernel
theorem dX6_undo_40 : decode cX6_undo 40 = .ok (.invokevirtual 77, 3) := by decide +kernel
theorem dX6_undo_43 : decode cX6_undo 43 = .ok (.ireturn, 1) := by decide +kernel
theorem dX6_count_0 : decode cX6_count 0 = .ok (.iload_n 1, 1) := by decide +kernel
theorem dX6_count_1 : decode cX6_count 1 = .ok (.tableswitch 69 0 4 #[35, 40, 48, 56, 61], 35) := by decide +kernel
theorem dX6_count_36 : decode cX6_count 36 = .ok (.aload_n 0, 1) := by decide +kernel
theorem dX6_count_37 : decode cX6_count 37 = .ok (.invokevirtual 77, 3) := by decide +kernel
theorem dX6_count_40 : decode cX6_count 40 = .ok (.ireturn, 1) := by decide +kernel
theorem dX6_count_41 : decode cX6_count 41 = .ok (.aload_n 0, 1) := by decide +kernel
theorem dX6_count_42 : decode cX6_count 42 = .ok (.getfield 37, 3) := by decide +kernel
theorem dX6_count_45 : decode cX6_count 45 = .ok (.invokevirtual 148, 3) := by decide +kernel
theorem dX6_count_48 : decode cX6_count 48 = .ok (.ireturn, 1) := by decide +kernel
theorem dX6_count_49 : decode cX6_count 49 = .ok (.aload_n 0, 1) := by decide +kernel
theorem dX6_count_50 : decode cX6_count 50 = .ok (.getfield 51, 3) := by decide +kernel
theorem dX6_count_53 : decode cX6_count 53 = .ok (.invokevirtual 259, 3) := by decide +kernel
theorem dX6_count_56 : decode cX6_count 56 = .ok (.ireturn, 1) := by decide +kernel
theorem dX6_count_57 : decode cX6_count 57 = .ok (.aload_n 0, 1) := by decide +kernel
theorem dX6_count_58 : decode cX6_count 58 = .ok (.invokevirtual 287, 3) := by decide +kernel
theorem dX6_count_61 : decode cX6_count 61 = .ok (.ireturn, 1) := by decide +kernel
theorem dX6_count_62 : decode cX6_count 62 = .ok (.aload_n 0, 1) := by decide +kernel
theorem dX6_count_63 : decode cX6_count 63 = .ok (.getfield 44, 3) := by decide +kernel
theorem dX6_count_66 : decode cX6_count 66 = .ok (.invokevirtual 290, 3) := by decide +kernel
theorem dX6_count_69 : decode cX6_count 69 = .ok (.ireturn, 1) := by decide +kernel
theorem dX6_count_70 : decode cX6_count 70 = .ok (.iconst (-1), 1) := by decide +kernel
theorem dX6_count_71 : decode cX6_count 71 = .ok (.ireturn, 1) := by decide +kernel
theorem dX6_size_0 : decode cX6_size 0 = .ok (.aload_n 0, 1) := by decide +kernel
theorem dX6_size_1 : decode cX6_size 1 = .ok (.getfield 12, 3) := by decide +kernel
theorem dX6_size_4 : decode cX6_size 4 = .ok (.aload_n 0, 1) := by decide +kernel
theorem dX6_size_5 : decode cX6_size 5 = .ok (.getfield 70, 3) := by decide +kernel
theorem dX6_size_8 : decode cX6_size 8 = .ok (.invokevirtual 162, 3) := by decide +kernel
theorem dX6_size_11 : decode cX6_size 11 = .ok (.ireturn, 1) := by decide +kernel
theorem dX6_isNode_0 : decode cX6_isNode 0 = .ok (.iload_n 1, 1) := by decide +kernel
theorem dX6_isNode_1 : decode cX6_isNode 1 = .ok (.ifCond .lt 15, 3) := by decide +kernel
theorem dX6_isNode_4 : decode cX6_isNode 4 = .ok (.iload_n 1, 1) := by decide +kernel
theorem dX6_isNode_5 : decode cX6_isNode 5 = .ok (.aload_n 0, 1) := by decide +kernel
theorem dX6_isNode_6 : decode cX6_isNode 6 = .ok (.invokevirtual 77, 3) := by decide +kernel
theorem dX6_isNode_9 : decode cX6_isNode 9 = .ok (.if_icmp .ge 7, 3) := by decide +kernel
theorem dX6_isNode_12 : decode cX6_isNode 12 = .ok (.iconst 1, 1) := by decide +kernel
theorem dX6_isNode_13 : decode cX6_isNode 13 = .ok (.goto 4, 3) := by decide +kernel
theorem dX6_isNode_16 : decode cX6_isNode 16 = .ok (.iconst 0, 1) := by decide +kernel
theorem dX6_isNode_17 : decode cX6_isNode 17 = .ok (.ireturn, 1) := by decide +kernel
theorem dX6_become_0 : decode cX6_become 0 = .ok (.iload_n 1, 1) := by decide +kernel
theorem dX6_become_1 : decode cX6_become 1 = .ok (.aload_n 0, 1) := by decide +kernel
theorem dX6_become_2 : decode cX6_become 2 = .ok (.getfield 70, 3) := by decide +kernel
theorem dX6_become_5 : decode cX6_become 5 = .ok (.if_icmp .eq 19, 3) := by decide +kernel
theorem dX6_become_8 : decode cX6_become 8 = .ok (.aload_n 0, 1) := by decide +kernel
theorem dX6_become_9 : decode cX6_become 9 = .ok (.getfield 37, 3) := by decide +kernel
theorem dX6_become_12 : decode cX6_become 12 = .ok (.aload_n 0, 1) := by decide +kernel
theorem dX6_become_13 : decode cX6_become 13 = .ok (.getfield 70, 3) := by decide +kernel
theorem dX6_become_16 : decode cX6_become 16 = .ok (.invokevirtual 293, 3) := by decide +kernel
theorem dX6_become_19 : decode cX6_become 19 = .ok (.aload_n 0, 1) := by decide +kernel
theorem dX6_become_20 : decode cX6_become 20 = .ok (.iload_n 1, 1) := by decide +kernel
theorem dX6_become_21 : decode cX6_become 21 = .ok (.putfield 70, 3) := by decide +kernel
theorem dX6_become_24 : decode cX6_become 24 = .ok (.return_, 1) := by decide +kernel
theorem dX6_becomeAndTell_0 : decode cX6_becomeAndTell 0 = .ok (.aload_n 0, 1) := by decide +kernel
theorem dX6_becomeAndTell_1 : decode cX6_becomeAndTell 1 = .ok (.iload_n 1, 1) := by decide +kernel
theorem dX6_becomeAndTell_2 : decode cX6_becomeAndTell 2 = .ok (.invokevirtual 118, 3) := by decide +kernel
theorem dX6_becomeAndTell_5 : decode cX6_becomeAndTell 5 = .ok (.aload_n 0, 1) := by decide +kernel
theorem dX6_becomeAndTell_6 : decode cX6_becomeAndTell 6 = .ok (.getfield 12, 3) := by decide +kernel
theorem dX6_becomeAndTell_9 : decode cX6_becomeAndTell 9 = .ok (.aload_n 0, 1) := by decide +kernel
theorem dX6_becomeAndTell_10 : decode cX6_becomeAndTell 10 = .ok (.getfield 70, 3) := by decide +kernel
theorem dX6_becomeAndTell_13 : decode cX6_becomeAndTell 13 = .ok (.invokevirtual 115, 3) := by decide +kernel
theorem dX6_becomeAndTell_16 : decode cX6_becomeAndTell 16 = .ok (.ireturn, 1) := by decide +kernel
theorem dX6_isShelf_0 : decode cX6_isShelf 0 = .ok (.iload_n 0, 1) := by decide +kernel
theorem dX6_isShelf_1 : decode cX6_isShelf 1 = .ok (.ifCond .lt 12, 3) := by decide +kernel
theorem dX6_isShelf_4 : decode cX6_isShelf 4 = .ok (.iload_n 0, 1) := by decide +kernel
theorem dX6_isShelf_5 : decode cX6_isShelf 5 = .ok (.iconst 4, 1) := by decide +kernel
theorem dX6_isShelf_6 : decode cX6_isShelf 6 = .ok (.if_icmp .ge 7, 3) := by decide +kernel
theorem dX6_isShelf_9 : decode cX6_isShelf 9 = .ok (.iconst 1, 1) := by decide +kernel
theorem dX6_isShelf_10 : decode cX6_isShelf 10 = .ok (.goto 4, 3) := by decide +kernel
theorem dX6_isShelf_13 : decode cX6_isShelf 13 = .ok (.iconst 0, 1) := by decide +kernel
theorem dX6_isShelf_14 : decode cX6_isShelf 14 = .ok (.ireturn, 1) := by decide +kernel
theorem dX6_lack_0 : decode cX6_lack 0 = .ok (.iload_n 1, 1) := by decide +kernel
theorem dX6_lack_1 : decode cX6_lack 1 = .ok (.invokestatic 211, 3) := by decide +kernel
theorem dX6_lack_4 : decode cX6_lack 4 = .ok (.ifCond .ne 5, 3) := by decide +kernel
theorem dX6_lack_7 : decode cX6_lack 7 = .ok (.iconst (-1), 1) := by decide +kernel
theorem dX6_lack_8 : decode cX6_lack 8 = .ok (.ireturn, 1) := by decide +kernel
theorem dX6_lack_9 : decode cX6_lack 9 = .ok (.aload_n 0, 1) := by decide +kernel
theorem dX6_lack_10 : decode cX6_lack 10 = .ok (.getfield 55, 3) := by decide +kernel
theorem dX6_lack_13 : decode cX6_lack 13 = .ok (.iload_n 1, 1) := by decide +kernel
theorem dX6_lack_14 : decode cX6_lack 14 = .ok (.iaload, 1) := by decide +kernel
theorem dX6_lack_15 : decode cX6_lack 15 = .ok (.ifCond .ne 8, 3) := by decide +kernel
theorem dX6_lack_18 : decode cX6_lack 18 = .ok (.bipush (-6), 2) := by decide +kernel
theorem dX6_lack_20 : decode cX6_lack 20 = .ok (.goto 4, 3) := by decide +kernel
theorem dX6_lack_23 : decode cX6_lack 23 = .ok (.iconst 0, 1) := by decide +kernel
theorem dX6_lack_24 : decode cX6_lack 24 = .ok (.ireturn, 1) := by decide +kernel
theorem dX6_lackOrTooMany_0 : decode cX6_lackOrTooMany 0 = .ok (.aload_n 0, 1) := by decide +kernel
theorem dX6_lackOrTooMany_1 : decode cX6_lackOrTooMany 1 = .ok (.iload_n 1, 1) := by decide +kernel
theorem dX6_lackOrTooMany_2 : decode cX6_lackOrTooMany 2 = .ok (.invokevirtual 214, 3) := by decide +kernel
theorem dX6_lackOrTooMany_5 : decode cX6_lackOrTooMany 5 = .ok (.istore_n 2, 1) := by decide +kernel
theorem dX6_lackOrTooMany_6 : decode cX6_lackOrTooMany 6 = .ok (.iload_n 2, 1) := by decide +kernel
theorem dX6_lackOrTooMany_7 : decode cX6_lackOrTooMany 7 = .ok (.ifCond .eq 5, 3) := by decide +kernel
theorem dX6_lackOrTooMany_10 : decode cX6_lackOrTooMany 10 = .ok (.iload_n 2, 1) := by decide +kernel
theorem dX6_lackOrTooMany_11 : decode cX6_lackOrTooMany 11 = .ok (.ireturn, 1) := by decide +kernel
theorem dX6_lackOrTooMany_12 : decode cX6_lackOrTooMany 12 = .ok (.aload_n 0, 1) := by decide +kernel
theorem dX6_lackOrTooMany_13 : decode cX6_lackOrTooMany 13 = .ok (.invokevirtual 77, 3) := by decide +kernel
theorem dX6_lackOrTooMany_16 : decode cX6_lackOrTooMany 16 = .ok (.aload_n 0, 1) := by decide +kernel
theorem dX6_lackOrTooMany_17 : decode cX6_lackOrTooMany 17 = .ok (.getfield 12, 3) := by decide +kernel
theorem dX6_lackOrTooMany_20 : decode cX6_lackOrTooMany 20 = .ok (.aload_n 0, 1) := by decide +kernel
theorem dX6_lackOrTooMany_21 : decode cX6_lackOrTooMany 21 = .ok (.getfield 55, 3) := by decide +kernel
theorem dX6_lackOrTooMany_24 : decode cX6_lackOrTooMany 24 = .ok (.iload_n 1, 1) := by decide +kernel
theorem dX6_lackOrTooMany_25 : decode cX6_lackOrTooMany 25 = .ok (.iaload, 1) := by decide +kernel
theorem dX6_lackOrTooMany_26 : decode cX6_lackOrTooMany 26 = .ok (.invokevirtual 162, 3) := by decide +kernel
theorem dX6_lackOrTooMany_29 : decode cX6_lackOrTooMany 29 = .ok (.iadd, 1) := by decide +kernel
theorem dX6_lackOrTooMany_30 : decode cX6_lackOrTooMany 30 = .ok (.bipush 7, 2) := by decide +kernel
theorem dX6_lackOrTooMany_32 : decode cX6_lackOrTooMany 32 = .ok (.if_icmp .le 8, 3) := by decide +kernel
theorem dX6_lackOrTooMany_35 : decode cX6_lackOrTooMany 35 = .ok (.bipush (-4), 2) := by decide +kernel
theorem dX6_lackOrTooMany_37 : decode cX6_lackOrTooMany 37 = .ok (.goto 4, 3) := by decide +kernel
theorem dX6_lackOrTooMany_40 : decode cX6_lackOrTooMany 40 = .ok (.iconst 0, 1) := by decide +kernel
theorem dX6_lackOrTooMany_41 : decode cX6_lackOrTooMany 41 = .ok (.ireturn, 1) := by decide +kernel
theorem dX6_refusal_0 : decode cX6_refusal 0 = .ok (.aload_n 0, 1) := by decide +kernel
theorem dX6_refusal_1 : decode cX6_refusal 1 = .ok (.iload_n 1, 1) := by decide +kernel
theorem dX6_refusal_2 : decode cX6_refusal 2 = .ok (.invokevirtual 214, 3) := by decide +kernel
theorem dX6_refusal_5 : decode cX6_refusal 5 = .ok (.istore_n 2, 1) := by decide +kernel
theorem dX6_refusal_6 : decode cX6_refusal 6 = .ok (.iload_n 2, 1) := by decide +kernel
theorem dX6_refusal_7 : decode cX6_refusal 7 = .ok (.ifCond .eq 5, 3) := by decide +kernel
theorem dX6_refusal_10 : decode cX6_refusal 10 = .ok (.iload_n 2, 1) := by decide +kernel
theorem dX6_refusal_11 : decode cX6_refusal 11 = .ok (.ireturn, 1) := by decide +kernel
theorem dX6_refusal_12 : decode cX6_refusal 12 = .ok (.aload_n 0, 1) := by decide +kernel
theorem dX6_refusal_13 : decode cX6_refusal 13 = .ok (.getfield 12, 3) := by decide +kernel
theorem dX6_refusal_16 : decode cX6_refusal 16 = .ok (.aload_n 0, 1) := by decide +kernel
theorem dX6_refusal_17 : decode cX6_refusal 17 = .ok (.getfield 55, 3) := by decide +kernel
theorem dX6_refusal_20 : decode cX6_refusal 20 = .ok (.iload_n 1, 1) := by decide +kernel
theorem dX6_refusal_21 : decode cX6_refusal 21 = .ok (.iaload, 1) := by decide +kernel
theorem dX6_refusal_22 : decode cX6_refusal 22 = .ok (.invokevirtual 162, 3) := by decide +kernel
theorem dX6_refusal_25 : decode cX6_refusal 25 = .ok (.aload_n 0, 1) := by decide +kernel
theorem dX6_refusal_26 : decode cX6_refusal 26 = .ok (.invokevirtual 77, 3) := by decide +kernel
theorem dX6_refusal_29 : decode cX6_refusal 29 = .ok (.if_icmp .ne 7, 3) := by decide +kernel
theorem dX6_refusal_32 : decode cX6_refusal 32 = .ok (.iconst 0, 1) := by decide +kernel
theorem dX6_refusal_33 : decode cX6_refusal 33 = .ok (.goto 5, 3) := by decide +kernel
theorem dX6_refusal_36 : decode cX6_refusal 36 = .ok (.bipush (-7), 2) := by decide +kernel
theorem dX6_refusal_38 : decode cX6_refusal 38 = .ok (.ireturn, 1) := by decide +kernel
theorem dX6_refusalOfTwo_0 : decode cX6_refusalOfTwo 0 = .ok (.iload_n 2, 1) := by decide +kernel
theorem dX6_refusalOfTwo_1 : decode cX6_refusalOfTwo 1 = .ok (.ifCond .lt 8, 3) := by decide +kernel
theorem dX6_refusalOfTwo_4 : decode cX6_refusalOfTwo 4 = .ok (.iload_n 2, 1) := by decide +kernel
theorem dX6_refusalOfTwo_5 : decode cX6_refusalOfTwo 5 = .ok (.iconst 1, 1) := by decide +kernel
theorem dX6_refusalOfTwo_6 : decode cX6_refusalOfTwo 6 = .ok (.if_icmp .le 7, 3) := by decide +kernel
theorem dX6_refusalOfTwo_9 : decode cX6_refusalOfTwo 9 = .ok (.iconst (-1), 1) := by decide +kernel
theorem dX6_refusalOfTwo_10 : decode cX6_refusalOfTwo 10 = .ok (.goto 8, 3) := by decide +kernel
theorem dX6_refusalOfTwo_13 : decode cX6_refusalOfTwo 13 = .ok (.aload_n 0, 1) := by decide +kernel
theorem dX6_refusalOfTwo_14 : decode cX6_refusalOfTwo 14 = .ok (.iload_n 1, 1) := by decide +kernel
theorem dX6_refusalOfTwo_15 : decode cX6_refusalOfTwo 15 = .ok (.invokevirtual 165, 3) := by decide +kernel
theorem dX6_refusalOfTwo_18 : decode cX6_refusalOfTwo 18 = .ok (.ireturn, 1) := by decide +kernel
theorem dX6_shelvesInUse_0 : decode cX6_shelvesInUse 0 = .ok (.iconst 0, 1) := by decide +kernel
theorem dX6_shelvesInUse_1 : decode cX6_shelvesInUse 1 = .ok (.istore_n 1, 1) := by decide +kernel
theorem dX6_shelvesInUse_2 : decode cX6_shelvesInUse 2 = .ok (.aload_n 0, 1) := by decide +kernel
theorem dX6_shelvesInUse_3 : decode cX6_shelvesInUse 3 = .ok (.getfield 55, 3) := by decide +kernel
theorem dX6_shelvesInUse_6 : decode cX6_shelvesInUse 6 = .ok (.astore_n 2, 1) := by decide +kernel
theorem dX6_shelvesInUse_7 : decode cX6_shelvesInUse 7 = .ok (.aload_n 2, 1) := by decide +kernel
theorem dX6_shelvesInUse_8 : decode cX6_shelvesInUse 8 = .ok (.arraylength, 1) := by decide +kernel
theorem dX6_shelvesInUse_9 : decode cX6_shelvesInUse 9 = .ok (.istore_n 3, 1) := by decide +kernel
theorem dX6_shelvesInUse_10 : decode cX6_shelvesInUse 10 = .ok (.iconst 0, 1) := by decide +kernel
theorem dX6_shelvesInUse_11 : decode cX6_shelvesInUse 11 = .ok (.istore 4, 2) := by decide +kernel
theorem dX6_shelvesInUse_13 : decode cX6_shelvesInUse 13 = .ok (.iload 4, 2) := by decide +kernel
theorem dX6_shelvesInUse_15 : decode cX6_shelvesInUse 15 = .ok (.iload_n 3, 1) := by decide +kernel
theorem dX6_shelvesInUse_16 : decode cX6_shelvesInUse 16 = .ok (.if_icmp .ge 23, 3) := by decide +kernel
theorem dX6_shelvesInUse_19 : decode cX6_shelvesInUse 19 = .ok (.aload_n 2, 1) := by decide +kernel
theorem dX6_shelvesInUse_20 : decode cX6_shelvesInUse 20 = .ok (.iload 4, 2) := by decide +kernel
theorem dX6_shelvesInUse_22 : decode cX6_shelvesInUse 22 = .ok (.iaload, 1) := by decide +kernel
theorem dX6_shelvesInUse_23 : decode cX6_shelvesInUse 23 = .ok (.istore 5, 2) := by decide +kernel
theorem dX6_shelvesInUse_25 : decode cX6_shelvesInUse 25 = .ok (.iload 5, 2) := by decide +kernel
theorem dX6_shelvesInUse_27 : decode cX6_shelvesInUse 27 = .ok (.ifCond .eq 6, 3) := by decide +kernel
theorem dX6_shelvesInUse_30 : decode cX6_shelvesInUse 30 = .ok (.iinc 1 1, 3) := by decide +kernel
theorem dX6_shelvesInUse_33 : decode cX6_shelvesInUse 33 = .ok (.iinc 4 1, 3) := by decide +kernel
theorem dX6_shelvesInUse_36 : decode cX6_shelvesInUse 36 = .ok (.goto (-23), 3) := by decide +kernel
theorem dX6_shelvesInUse_39 : decode cX6_shelvesInUse 39 = .ok (.iload_n 1, 1) := by decide +kernel
theorem dX6_shelvesInUse_40 : decode cX6_shelvesInUse 40 = .ok (.ireturn, 1) := by decide +kernel
end
section
theorem dX7_init_0 : decode cX7_init 0 = .ok (.aload_n 0, 1) := by decide +kernel
theorem dX7_init_1 : decode cX7_init 1 = .ok (.invokespecial 3, 3) := by decide +kernel
theorem dX7_init_4 : decode cX7_init 4 = .ok (.aload_n 0, 1) := by decide +kernel
theorem dX7_init_5 : decode cX7_init 5 = .ok (.iconst 3, 1) := by decide +kernel
theorem dX7_init_6 : decode cX7_init 6 = .ok (.putfield 9, 3) := by decide +kernel
theorem dX7_init_9 : decode cX7_init 9 = .ok (.aload_n 0, 1) := by decide +kernel
theorem dX7_init_10 : decode cX7_init 10 = .ok (.iconst 4, 1) := by decide +kernel
theorem dX7_init_11 : decode cX7_init 11 = .ok (.newarray .int, 2) := by decide +kernel
theorem dX7_init_13 : decode cX7_init 13 = .ok (.putfield 15, 3) := by decide +kernel
theorem dX7_init_16 : decode cX7_init 16 = .ok (.aload_n 0, 1) := by decide +kernel
theorem dX7_init_17 : decode cX7_init 17 = .ok (.iconst 4, 1) := by decide +kernel
theorem dX7_init_18 : decode cX7_init 18 = .ok (.newarray .int, 2) := by decide +kernel
theorem dX7_init_20 : decode cX7_init 20 = .ok (.putfield 19, 3) := by decide +kernel
theorem dX7_init_23 : decode cX7_init 23 = .ok (.aload_n 0, 1) := by decide +kernel
theorem dX7_init_24 : decode cX7_init 24 = .ok (.bipush 10, 2) := by decide +kernel
theorem dX7_init_26 : decode cX7_init 26 = .ok (.newarray .int, 2) := by decide +kernel
theorem dX7_init_28 : decode cX7_init 28 = .ok (.putfield 22, 3) := by decide +kernel
theorem dX7_init_31 : decode cX7_init 31 = .ok (.aload_n 0, 1) := by decide +kernel
theorem dX7_init_32 : decode cX7_init 32 = .ok (.bipush 10, 2) := by decide +kernel
theorem dX7_init_34 : decode cX7_init 34 = .ok (.newarray .int, 2) := by decide +kernel
theorem dX7_init_36 : decode cX7_init 36 = .ok (.putfield 25, 3) := by decide +kernel
theorem dX7_init_39 : decode cX7_init 39 = .ok (.aload_n 0, 1) := by decide +kernel
theorem dX7_init_40 : decode cX7_init 40 = .ok (.bipush 60, 2) := by decide +kernel
theorem dX7_init_42 : decode cX7_init 42 = .ok (.newarray .long, 2) := by decide +kernel
theorem dX7_init_44 : decode cX7_init 44 = .ok (.putfield 28, 3) := by decide +kernel
theorem dX7_init_47 : decode cX7_init 47 = .ok (.aload_n 0, 1) := by decide +kernel
theorem dX7_init_48 : decode cX7_init 48 = .ok (.iconst 3, 1) := by decide +kernel
theorem dX7_init_49 : decode cX7_init 49 = .ok (.newarray .int, 2) := by decide +kernel
theorem dX7_init_51 : decode cX7_init 51 = .ok (.dup, 1) := by decide +kernel
theorem dX7_init_52 : decode cX7_init 52 = .ok (.iconst 0, 1) := by decide +kernel
theorem dX7_init_53 : decode cX7_init 53 = .ok (.iconst (-1), 1) := by decide +kernel
theorem dX7_init_54 : decode cX7_init 54 = .ok (.iastore, 1) := by decide +kernel
theorem dX7_init_55 : decode cX7_init 55 = .ok (.dup, 1) := by decide +kernel
theorem dX7_init_56 : decode cX7_init 56 = .ok (.iconst 1, 1) := by decide +kernel
theorem dX7_init_57 : decode cX7_init 57 = .ok (.iconst (-1), 1) := by decide +kernel
theorem dX7_init_58 : decode cX7_init 58 = .ok (.iastore, 1) := by decide +kernel
theorem dX7_init_59 : decode cX7_init 59 = .ok (.dup, 1) := by decide +kernel
theorem dX7_init_60 : decode cX7_init 60 = .ok (.iconst 2, 1) := by decide +kernel
theorem dX7_init_61 : decode cX7_init 61 = .ok (.iconst (-1), 1) := by decide +kernel
theorem dX7_init_62 : decode cX7_init 62 = .ok (.iastore, 1) := by decide +kernel
theorem dX7_init_63 : decode cX7_init 63 = .ok (.putfield 32, 3) := by decide +kernel
theorem dX7_init_66 : decode cX7_init 66 = .ok (.aload_n 0, 1) := by decide +kernel
theorem dX7_init_67 : decode cX7_init 67 = .ok (.bipush 60, 2) := by decide +kernel
theorem dX7_init_69 : decode cX7_init 69 = .ok (.newarray .int, 2) := by decide +kernel
theorem dX7_init_71 : decode cX7_init 71 = .ok (.putfield 35, 3) := by decide +kernel
theorem dX7_init_74 : decode cX7_init 74 = .ok (.aload_n 0, 1) := by decide +kernel
theorem dX7_init_75 : decode cX7_init 75 = .ok (.iconst 4, 1) := by decide +kernel
theorem dX7_init_76 : decode cX7_init 76 = .ok (.newarray .int, 2) := by decide +kernel
theorem dX7_init_78 : decode cX7_init 78 = .ok (.putfield 38, 3) := by decide +kernel
theorem dX7_init_81 : decode cX7_init 81 = .ok (.aload_n 0, 1) := by decide +kernel
theorem dX7_init_82 : decode cX7_init 82 = .ok (.iconst 4, 1) := by decide +kernel
theorem dX7_init_83 : decode cX7_init 83 = .ok (.newarray .int, 2) := by decide +kernel
theorem dX7_init_85 : decode cX7_init 85 = .ok (.putfield 41, 3) := by decide +kernel
theorem dX7_init_88 : decode cX7_init 88 = .ok (.aload_n 0, 1) := by decide +kernel
theorem dX7_init_89 : decode cX7_init 89 = .ok (.sipush 429, 3) := by decide +kernel
theorem dX7_init_92 : decode cX7_init 92 = .ok (.newarray .int, 2) := by decide +kernel
theorem dX7_init_94 : decode cX7_init 94 = .ok (.putfield 44, 3) := by decide +kernel
theorem dX7_init_97 : decode cX7_init 97 = .ok (.aload_n 0, 1) := by decide +kernel
theorem dX7_init_98 : decode cX7_init 98 = .ok (.bipush 7, 2) := by decide +kernel
theorem dX7_init_100 : decode cX7_init 100 = .ok (.newarray .int, 2) := by decide +kernel
theorem dX7_init_102 : decode cX7_init 102 = .ok (.putfield 47, 3) := by decide +kernel
theorem dX7_init_105 : decode cX7_init 105 = .ok (.aload_n 0, 1) := by decide +kernel
theorem dX7_init_106 : decode cX7_init 106 = .ok (.bipush 7, 2) := by decide +kernel
theorem dX7_init_108 : decode cX7_init 108 = .ok (.newarray .int, 2) := by decide +kernel
theorem dX7_init_110 : decode cX7_init 110 = .ok (.putfield 50, 3) := by decide +kernel
theorem dX7_init_113 : decode cX7_init 113 = .ok (.aload_n 0, 1) := by decide +kernel
theorem dX7_init_114 : decode cX7_init 114 = .ok (.bipush 7, 2) := by decide +kernel
theorem dX7_init_116 : decode cX7_init 116 = .ok (.newarray .int, 2) := by decide +kernel
theorem dX7_init_118 : decode cX7_init 118 = .ok (.putfield 53, 3) := by decide +kernel
theorem dX7_init_121 : decode cX7_init 121 = .ok (.aload_n 0, 1) := by decide +kernel
theorem dX7_init_122 : decode cX7_init 122 = .ok (.bipush 7, 2) := by decide +kernel
theorem dX7_init_124 : decode cX7_init 124 = .ok (.newarray .int, 2) := by decide +kernel
theorem dX7_init_126 : decode cX7_init 126 = .ok (.putfield 56, 3) := by decide +kernel
theorem dX7_init_129 : decode cX7_init 129 = .ok (.aload_n 0, 1) := by decide +kernel
theorem dX7_init_130 : decode cX7_init 130 = .ok (.bipush 7, 2) := by decide +kernel
theorem dX7_init_132 : decode cX7_init 132 = .ok (.newarray .int, 2) := by decide +kernel
theorem dX7_init_134 : decode cX7_init 134 = .ok (.putfield 59, 3) := by decide +kernel
theorem dX7_init_137 : decode cX7_init 137 = .ok (.aload_n 0, 1) := by decide +kernel
theorem dX7_init_138 : decode cX7_init 138 = .ok (.sipush 429, 3) := by decide +kernel
theorem dX7_init_141 : decode cX7_init 141 = .ok (.newarray .int, 2) := by decide +kernel
theorem dX7_init_143 : decode cX7_init 143 = .ok (.putfield 62, 3) := by decide +kernel
theorem dX7_init_146 : decode cX7_init 146 = .ok (.aload_n 0, 1) := by decide +kernel
theorem dX7_init_147 : decode cX7_init 147 = .ok (.sipush 429, 3) := by decide +kernel
theorem dX7_init_150 : decode cX7_init 150 = .ok (.newarray .int, 2) := by decide +kernel
theorem dX7_init_152 : decode cX7_init 152 = .ok (.putfield 65, 3) := by decide +kernel
theorem dX7_init_155 : decode cX7_init 155 = .ok (.aload_n 0, 1) := by decide +kernel
theorem dX7_init_156 : decode cX7_init 156 = .ok (.sipush 429, 3) := by decide +kernel
theorem dX7_init_159 : decode cX7_init 159 = .ok (.newarray .int, 2) := by decide +kernel
theorem dX7_init_161 : decode cX7_init 161 = .ok (.putfield 68, 3) := by decide +kernel
theorem dX7_init_164 : decode cX7_init 164 = .ok (.aload_n 0, 1) := by decide +kernel
theorem dX7_init_165 : decode cX7_init 165 = .ok (.bipush 60, 2) := by decide +kernel
theorem dX7_init_167 : decode cX7_init 167 = .ok (.newarray .int, 2) := by decide +kernel
theorem dX7_init_169 : decode cX7_init 169 = .ok (.putfield 71, 3) := by decide +kernel
theorem dX7_init_172 : decode cX7_init 172 = .ok (.aload_n 0, 1) := by decide +kernel
theorem dX7_init_173 : decode cX7_init 173 = .ok (.bipush 7, 2) := by decide +kernel
theorem dX7_init_175 : decode cX7_init 175 = .ok (.newarray .int, 2) := by decide +kernel
theorem dX7_init_177 : decode cX7_init 177 = .ok (.putfield 74, 3) := by decide +kernel
theorem dX7_init_180 : decode cX7_init 180 = .ok (.return_, 1) := by decide +kernel
theorem dX7_in_0 : decode cX7_in 0 = .ok (.lload_n 0, 1) := by decide +kernel
theorem dX7_in_1 : decode cX7_in 1 = .ok (.lload_n 2, 1) := by decide +kernel
theorem dX7_in_2 : decode cX7_in 2 = .ok (.lcmp, 1) := by decide +kernel
theorem dX7_in_3 : decode cX7_in 3 = .ok (.ifCond .lt 14, 3) := by decide +kernel
theorem dX7_in_6 : decode cX7_in 6 = .ok (.lload_n 0, 1) := by decide +kernel
theorem dX7_in_7 : decode cX7_in 7 = .ok (.lload 4, 2) := by decide +kernel
theorem dX7_in_9 : decode cX7_in 9 = .ok (.lcmp, 1) := by decide +kernel
theorem dX7_in_10 : decode cX7_in 10 = .ok (.ifCond .gt 7, 3) := by decide +kernel
theorem dX7_in_13 : decode cX7_in 13 = .ok (.iconst 1, 1) := by decide +kernel
theorem dX7_in_14 : decode cX7_in 14 = .ok (.goto 4, 3) := by decide +kernel
theorem dX7_in_17 : decode cX7_in 17 = .ok (.iconst 0, 1) := by decide +kernel
theorem dX7_in_18 : decode cX7_in 18 = .ok (.ireturn, 1) := by decide +kernel
theorem dX7_ten_0 : decode cX7_ten 0 = .ok (.iconst 1, 1) := by decide +kernel
theorem dX7_ten_1 : decode cX7_ten 1 = .ok (.istore_n 1, 1) := by decide +kernel
theorem dX7_ten_2 : decode cX7_ten 2 = .ok (.iconst 0, 1) := by decide +kernel
theorem dX7_ten_3 : decode cX7_ten 3 = .ok (.istore_n 2, 1) := by decide +kernel
theorem dX7_ten_4 : decode cX7_ten 4 = .ok (.iload_n 2, 1) := by decide +kernel
theorem dX7_ten_5 : decode cX7_ten 5 = .ok (.iload_n 0, 1) := by decide +kernel
theorem dX7_ten_6 : decode cX7_ten 6 = .ok (.if_icmp .ge 14, 3) := by decide +kernel
theorem dX7_ten_9 : decode cX7_ten 9 = .ok (.iload_n 1, 1) := by decide +kernel
theorem dX7_ten_10 : decode cX7_ten 10 = .ok (.bipush 10, 2) := by decide +kernel
theorem dX7_ten_12 : decode cX7_ten 12 = .ok (.imul, 1) := by decide +kernel
theorem dX7_ten_13 : decode cX7_ten 13 = .ok (.istore_n 1, 1) := by decide +kernel
theorem dX7_ten_14 : decode cX7_ten 14 = .ok (.iinc 2 1, 3) := by decide +kernel
theorem dX7_ten_17 : decode cX7_ten 17 = .ok (.goto (-13), 3) := by decide +kernel
theorem dX7_ten_20 : decode cX7_ten 20 = .ok (.iload_n 1, 1) := by decide +kernel
theorem dX7_ten_21 : decode cX7_ten 21 = .ok (.ireturn, 1) := by decide +kernel
theorem dX7_at_0 : decode cX7_at 0 = .ok (.iload_n 0, 1) := by decide +kernel
theorem dX7_at_1 : decode cX7_at 1 = .ok (.iload_n 1, 1) := by decide +kernel
theorem dX7_at_2 : decode cX7_at 2 = .ok (.iconst 1, 1) := by decide +kernel
theorem dX7_at_3 : decode cX7_at 3 = .ok (.isub, 1) := by decide +kernel
theorem dX7_at_4 : decode cX7_at 4 = .ok (.iload_n 2, 1) := by decide +kernel
theorem dX7_at_5 : decode cX7_at 5 = .ok (.isub, 1) := by decide +kernel
theorem dX7_at_6 : decode cX7_at 6 = .ok (.invokestatic 77, 3) := by decide +kernel
theorem dX7_at_9 : decode cX7_at 9 = .ok (.idiv, 1) := by decide +kernel
theorem dX7_at_10 : decode cX7_at 10 = .ok (.bipush 10, 2) := by decide +kernel
theorem dX7_at_12 : decode cX7_at 12 = .ok (.irem, 1) := by decide +kernel
theorem dX7_at_13 : decode cX7_at 13 = .ok (.ireturn, 1) := by decide +kernel
theorem dX7_with_0 : decode cX7_with 0 = .ok (.iload_n 0, 1) := by decide +kernel
theorem dX7_with_1 : decode cX7_with 1 = .ok (.iload_n 3, 1) := by decide +kernel
theorem dX7_with_2 : decode cX7_with 2 = .ok (.iload_n 0, 1) := by decide +kernel
theorem dX7_with_3 : decode cX7_with 3 = .ok (.iload_n 1, 1) := by decide +kernel
theorem dX7_with_4 : decode cX7_with 4 = .ok (.iload_n 2, 1) := by decide +kernel
theorem dX7_with_5 : decode cX7_with 5 = .ok (.invokestatic 81, 3) := by decide +kernel
theorem dX7_with_8 : decode cX7_with 8 = .ok (.isub, 1) := by decide +kernel
theorem dX7_with_9 : decode cX7_with 9 = .ok (.iload_n 1, 1) := by decide +kernel
theorem dX7_with_10 : decode cX7_with 10 = .ok (.iconst 1, 1) := by decide +kernel
theorem dX7_with_11 : decode cX7_with 11 = .ok (.isub, 1) := by decide +kernel
theorem dX7_with_12 : decode cX7_with 12 = .ok (.iload_n 2, 1) := by decide +kernel
theorem dX7_with_13 : decode cX7_with 13 = .ok (.isub, 1) := by decide +kernel
theorem dX7_with_14 : decode cX7_with 14 = .ok (.invokestatic 77, 3) := by decide +kernel
theorem dX7_with_17 : decode cX7_with 17 = .ok (.imul, 1) := by decide +kernel
theorem dX7_with_18 : decode cX7_with 18 = .ok (.iadd, 1) := by decide +kernel
theorem dX7_with_19 : decode cX7_with 19 = .ok (.ireturn, 1) := by decide +kernel
theorem dX7_isTree_0 : decode cX7_isTree 0 = .ok (.iload_n 0, 1) := by decide +kernel
theorem dX7_isTree_1 : decode cX7_isTree 1 = .ok (.i2l, 1) := by decide +kernel
theorem dX7_isTree_2 : decode cX7_isTree 2 = .ok (.lconst 0, 1) := by decide +kernel
theorem dX7_isTree_3 : decode cX7_isTree 3 = .ok (.iload_n 1, 1) := by decide +kernel
theorem dX7_isTree_4 : decode cX7_isTree 4 = .ok (.invokestatic 77, 3) := by decide +kernel
theorem dX7_isTree_7 : decode cX7_isTree 7 = .ok (.iconst 1, 1) := by decide +kernel
theorem dX7_isTree_8 : decode cX7_isTree 8 = .ok (.isub, 1) := by decide +kernel
theorem dX7_isTree_9 : decode cX7_isTree 9 = .ok (.i2l, 1) := by decide +kernel
theorem dX7_isTree_10 : decode cX7_isTree 10 = .ok (.invokestatic 85, 3) := by decide +kernel
theorem dX7_isTree_13 : decode cX7_isTree 13 = .ok (.ifCond .ne 5, 3) := by decide +kernel
theorem dX7_isTree_16 : decode cX7_isTree 16 = .ok (.iconst 0, 1) := by decide +kernel
theorem dX7_isTree_17 : decode cX7_isTree 17 = .ok (.ireturn, 1) := by decide +kernel
theorem dX7_isTree_18 : decode cX7_isTree 18 = .ok (.iconst 0, 1) := by decide +kernel
theorem dX7_isTree_19 : decode cX7_isTree 19 = .ok (.istore_n 2, 1) := by decide +kernel
theorem dX7_isTree_20 : decode cX7_isTree 20 = .ok (.iload_n 2, 1) := by decide +kernel
theorem dX7_isTree_21 : decode cX7_isTree 21 = .ok (.iload_n 1, 1) := by decide +kernel
theorem dX7_isTree_22 : decode cX7_isTree 22 = .ok (.if_icmp .ge 64, 3) := by decide +kernel
theorem dX7_isTree_25 : decode cX7_isTree 25 = .ok (.iload_n 0, 1) := by decide +kernel
theorem dX7_isTree_26 : decode cX7_isTree 26 = .ok (.iload_n 1, 1) := by decide +kernel
theorem dX7_isTree_27 : decode cX7_isTree 27 = .ok (.iload_n 2, 1) := by decide +kernel
theorem dX7_isTree_28 : decode cX7_isTree 28 = .ok (.invokestatic 81, 3) := by decide +kernel
theorem dX7_isTree_31 : decode cX7_isTree 31 = .ok (.istore_n 3, 1) := by decide +kernel
theorem dX7_isTree_32 : decode cX7_isTree 32 = .ok (.iload_n 3, 1) := by decide +kernel
theorem dX7_isTree_33 : decode cX7_isTree 33 = .ok (.iload_n 1, 1) := by decide +kernel
theorem dX7_isTree_34 : decode cX7_isTree 34 = .ok (.iconst 1, 1) := by decide +kernel
theorem dX7_isTree_35 : decode cX7_isTree 35 = .ok (.isub, 1) := by decide +kernel
theorem dX7_isTree_36 : decode cX7_isTree 36 = .ok (.iload_n 2, 1) := by decide +kernel
theorem dX7_isTree_37 : decode cX7_isTree 37 = .ok (.isub, 1) := by decide +kernel
theorem dX7_isTree_38 : decode cX7_isTree 38 = .ok (.if_icmp .le 5, 3) := by decide +kernel
theorem dX7_isTree_41 : decode cX7_isTree 41 = .ok (.iconst 0, 1) := by decide +kernel
theorem dX7_isTree_42 : decode cX7_isTree 42 = .ok (.ireturn, 1) := by decide +kernel
theorem dX7_isTree_43 : decode cX7_isTree 43 = .ok (.iload_n 2, 1) := by decide +kernel
theorem dX7_isTree_44 : decode cX7_isTree 44 = .ok (.iconst 1, 1) := by decide +kernel
theorem dX7_isTree_45 : decode cX7_isTree 45 = .ok (.iadd, 1) := by decide +kernel
theorem dX7_isTree_46 : decode cX7_isTree 46 = .ok (.istore 4, 2) := by decide +kernel
theorem dX7_isTree_48 : decode cX7_isTree 48 = .ok (.iload 4, 2) := by decide +kernel
theorem dX7_isTree_50 : decode cX7_isTree 50 = .ok (.iload_n 2, 1) := by decide +kernel
theorem dX7_isTree_51 : decode cX7_isTree 51 = .ok (.iload_n 3, 1) := by decide +kernel
theorem dX7_isTree_52 : decode cX7_isTree 52 = .ok (.iadd, 1) := by decide +kernel
theorem dX7_isTree_53 : decode cX7_isTree 53 = .ok (.if_icmp .gt 27, 3) := by decide +kernel
theorem dX7_isTree_56 : decode cX7_isTree 56 = .ok (.iload 4, 2) := by decide +kernel
theorem dX7_isTree_58 : decode cX7_isTree 58 = .ok (.iload_n 0, 1) := by decide +kernel
theorem dX7_isTree_59 : decode cX7_isTree 59 = .ok (.iload_n 1, 1) := by decide +kernel
theorem dX7_isTree_60 : decode cX7_isTree 60 = .ok (.iload 4, 2) := by decide +kernel
theorem dX7_isTree_62 : decode cX7_isTree 62 = .ok (.invokestatic 81, 3) := by decide +kernel
theorem dX7_isTree_65 : decode cX7_isTree 65 = .ok (.iadd, 1) := by decide +kernel
theorem dX7_isTree_66 : decode cX7_isTree 66 = .ok (.iload_n 2, 1) := by decide +kernel
theorem dX7_isTree_67 : decode cX7_isTree 67 = .ok (.iload_n 3, 1) := by decide +kernel
theorem dX7_isTree_68 : decode cX7_isTree 68 = .ok (.iadd, 1) := by decide +kernel
theorem dX7_isTree_69 : decode cX7_isTree 69 = .ok (.if_icmp .le 5, 3) := by decide +kernel
theorem dX7_isTree_72 : decode cX7_isTree 72 = .ok (.iconst 0, 1) := by decide +kernel
theorem dX7_isTree_73 : decode cX7_isTree 73 = .ok (.ireturn, 1) := by decide +kernel
theorem dX7_isTree_74 : decode cX7_isTree 74 = .ok (.iinc 4 1, 3) := by decide +kernel
theorem dX7_isTree_77 : decode cX7_isTree 77 = .ok (.goto (-29), 3) := by decide +kernel
theorem dX7_isTree_80 : decode cX7_isTree 80 = .ok (.iinc 2 1, 3) := by decide +kernel
theorem dX7_isTree_83 : decode cX7_isTree 83 = .ok (.goto (-63), 3) := by decide +kernel
theorem dX7_isTree_86 : decode cX7_isTree 86 = .ok (.iconst 1, 1) := by decide +kernel
theorem dX7_isTree_87 : decode cX7_isTree 87 = .ok (.ireturn, 1) := by decide +kernel
theorem dX7_table_0 : decode cX7_table 0 = .ok (.aload_n 0, 1) := by decide +kernel
theorem dX7_table_1 : decode cX7_table 1 = .ok (.getfield 89, 3) := by decide +kernel
theorem dX7_table_4 : decode cX7_table 4 = .ok (.iload_n 1, 1) := by decide +kernel
theorem dX7_table_5 : decode cX7_table 5 = .ok (.if_icmp .ne 4, 3) := by decide +kernel
theorem dX7_table_8 : decode cX7_table 8 = .ok (.return_, 1) := by decide +kernel
theorem dX7_table_9 : decode cX7_table 9 = .ok (.aload_n 0, 1) := by decide +kernel
theorem dX7_table_10 : decode cX7_table 10 = .ok (.iload_n 1, 1) := by decide +kernel
theorem dX7_table_11 : decode cX7_table 11 = .ok (.putfield 89, 3) := by decide +kernel
theorem dX7_table_14 : decode cX7_table 14 = .ok (.aload_n 0, 1) := by decide +kernel
theorem dX7_table_15 : decode cX7_table 15 = .ok (.iconst 0, 1) := by decide +kernel
theorem dX7_table_16 : decode cX7_table 16 = .ok (.putfield 92, 3) := by decide +kernel
theorem dX7_table_19 : decode cX7_table 19 = .ok (.iconst 0, 1) := by decide +kernel
theorem dX7_table_20 : decode cX7_table 20 = .ok (.istore_n 2, 1) := by decide +kernel
theorem dX7_table_21 : decode cX7_table 21 = .ok (.iload_n 2, 1) := by decide +kernel
theorem dX7_table_22 : decode cX7_table 22 = .ok (.iload_n 1, 1) := by decide +kernel
theorem dX7_table_23 : decode cX7_table 23 = .ok (.invokestatic 77, 3) := by decide +kernel
theorem dX7_table_26 : decode cX7_table 26 = .ok (.if_icmp .ge 127, 3) := by decide +kernel
theorem dX7_table_29 : decode cX7_table 29 = .ok (.iconst 1, 1) := by decide +kernel
theorem dX7_table_30 : decode cX7_table 30 = .ok (.istore_n 3, 1) := by decide +kernel
theorem dX7_table_31 : decode cX7_table 31 = .ok (.iconst 0, 1) := by decide +kernel
theorem dX7_table_32 : decode cX7_table 32 = .ok (.istore 4, 2) := by decide +kernel
theorem dX7_table_34 : decode cX7_table 34 = .ok (.iconst 0, 1) := by decide +kernel
theorem dX7_table_35 : decode cX7_table 35 = .ok (.istore 5, 2) := by decide +kernel
theorem dX7_table_37 : decode cX7_table 37 = .ok (.iload 5, 2) := by decide +kernel
theorem dX7_table_39 : decode cX7_table 39 = .ok (.iload_n 1, 1) := by decide +kernel
theorem dX7_table_40 : decode cX7_table 40 = .ok (.if_icmp .ge 68, 3) := by decide +kernel
theorem dX7_table_43 : decode cX7_table 43 = .ok (.iload_n 3, 1) := by decide +kernel
theorem dX7_table_44 : decode cX7_table 44 = .ok (.ifCond .eq 64, 3) := by decide +kernel
theorem dX7_table_47 : decode cX7_table 47 = .ok (.iload_n 2, 1) := by decide +kernel
theorem dX7_table_48 : decode cX7_table 48 = .ok (.iload_n 1, 1) := by decide +kernel
theorem dX7_table_49 : decode cX7_table 49 = .ok (.iload 5, 2) := by decide +kernel
theorem dX7_table_51 : decode cX7_table 51 = .ok (.invokestatic 81, 3) := by decide +kernel
theorem dX7_table_54 : decode cX7_table 54 = .ok (.iload_n 1, 1) := by decide +kernel
theorem dX7_table_55 : decode cX7_table 55 = .ok (.iconst 1, 1) := by decide +kernel
theorem dX7_table_56 : decode cX7_table 56 = .ok (.isub, 1) := by decide +kernel
theorem dX7_table_57 : decode cX7_table 57 = .ok (.iload 5, 2) := by decide +kernel
theorem dX7_table_59 : decode cX7_table 59 = .ok (.isub, 1) := by decide +kernel
theorem dX7_table_60 : decode cX7_table 60 = .ok (.if_icmp .gt 6, 3) := by decide +kernel
theorem dX7_table_63 : decode cX7_table 63 = .ok (.goto 39, 3) := by decide +kernel
theorem dX7_table_66 : decode cX7_table 66 = .ok (.iconst 0, 1) := by decide +kernel
theorem dX7_table_67 : decode cX7_table 67 = .ok (.istore_n 3, 1) := by decide +kernel
theorem dX7_table_68 : decode cX7_table 68 = .ok (.iload_n 1, 1) := by decide +kernel
theorem dX7_table_69 : decode cX7_table 69 = .ok (.iconst 1, 1) := by decide +kernel
theorem dX7_table_70 : decode cX7_table 70 = .ok (.isub, 1) := by decide +kernel
theorem dX7_table_71 : decode cX7_table 71 = .ok (.iload 5, 2) := by decide +kernel
theorem dX7_table_73 : decode cX7_table 73 = .ok (.isub, 1) := by decide +kernel
theorem dX7_table_74 : decode cX7_table 74 = .ok (.invokestatic 77, 3) := by decide +kernel
theorem dX7_table_77 : decode cX7_table 77 = .ok (.bipush 10, 2) := by decide +kernel
theorem dX7_table_79 : decode cX7_table 79 = .ok (.iload_n 2, 1) := by decide +kernel
theorem dX7_table_80 : decode cX7_table 80 = .ok (.iload_n 1, 1) := by decide +kernel
theorem dX7_table_81 : decode cX7_table 81 = .ok (.iload 5, 2) := by decide +kernel
theorem dX7_table_83 : decode cX7_table 83 = .ok (.invokestatic 81, 3) := by decide +kernel
theorem dX7_table_86 : decode cX7_table 86 = .ok (.isub, 1) := by decide +kernel
theorem dX7_table_87 : decode cX7_table 87 = .ok (.imul, 1) := by decide +kernel
theorem dX7_table_88 : decode cX7_table 88 = .ok (.iload_n 2, 1) := by decide +kernel
theorem dX7_table_89 : decode cX7_table 89 = .ok (.iload_n 1, 1) := by decide +kernel
theorem dX7_table_90 : decode cX7_table 90 = .ok (.iconst 1, 1) := by decide +kernel
theorem dX7_table_91 : decode cX7_table 91 = .ok (.isub, 1) := by decide +kernel
theorem dX7_table_92 : decode cX7_table 92 = .ok (.iload 5, 2) := by decide +kernel
theorem dX7_table_94 : decode cX7_table 94 = .ok (.isub, 1) := by decide +kernel
theorem dX7_table_95 : decode cX7_table 95 = .ok (.invokestatic 77, 3) := by decide +kernel
theorem dX7_table_98 : decode cX7_table 98 = .ok (.irem, 1) := by decide +kernel
theorem dX7_table_99 : decode cX7_table 99 = .ok (.isub, 1) := by decide +kernel
theorem dX7_table_100 : decode cX7_table 100 = .ok (.istore 4, 2) := by decide +kernel
theorem dX7_table_102 : decode cX7_table 102 = .ok (.iinc 5 1, 3) := by decide +kernel
theorem dX7_table_105 : decode cX7_table 105 = .ok (.goto (-68), 3) := by decide +kernel
theorem dX7_table_108 : decode cX7_table 108 = .ok (.iload_n 3, 1) := by decide +kernel
theorem dX7_table_109 : decode cX7_table 109 = .ok (.ifCond .ne 13, 3) := by decide +kernel
theorem dX7_table_112 : decode cX7_table 112 = .ok (.iload_n 2, 1) := by decide +kernel
theorem dX7_table_113 : decode cX7_table 113 = .ok (.iload 4, 2) := by decide +kernel
theorem dX7_table_115 : decode cX7_table 115 = .ok (.iconst 1, 1) := by decide +kernel
theorem dX7_table_116 : decode cX7_table 116 = .ok (.isub, 1) := by decide +kernel
theorem dX7_table_117 : decode cX7_table 117 = .ok (.iadd, 1) := by decide +kernel
theorem dX7_table_118 : decode cX7_table 118 = .ok (.istore_n 2, 1) := by decide +kernel
theorem dX7_table_119 : decode cX7_table 119 = .ok (.goto 28, 3) := by decide +kernel
theorem dX7_table_122 : decode cX7_table 122 = .ok (.iload_n 2, 1) := by decide +kernel
theorem dX7_table_123 : decode cX7_table 123 = .ok (.iload_n 1, 1) := by decide +kernel
theorem dX7_table_124 : decode cX7_table 124 = .ok (.invokestatic 95, 3) := by decide +kernel
theorem dX7_table_127 : decode cX7_table 127 = .ok (.ifCond .eq 20, 3) := by decide +kernel
theorem dX7_table_130 : decode cX7_table 130 = .ok (.aload_n 0, 1) := by decide +kernel
theorem dX7_table_131 : decode cX7_table 131 = .ok (.getfield 44, 3) := by decide +kernel
theorem dX7_table_134 : decode cX7_table 134 = .ok (.aload_n 0, 1) := by decide +kernel
theorem dX7_table_135 : decode cX7_table 135 = .ok (.dup, 1) := by decide +kernel
theorem dX7_table_136 : decode cX7_table 136 = .ok (.getfield 92, 3) := by decide +kernel
theorem dX7_table_139 : decode cX7_table 139 = .ok (.dup_x1, 1) := by decide +kernel
theorem dX7_table_140 : decode cX7_table 140 = .ok (.iconst 1, 1) := by decide +kernel
theorem dX7_table_141 : decode cX7_table 141 = .ok (.iadd, 1) := by decide +kernel
theorem dX7_table_142 : decode cX7_table 142 = .ok (.putfield 92, 3) := by decide +kernel
theorem dX7_table_145 : decode cX7_table 145 = .ok (.iload_n 2, 1) := by decide +kernel
theorem dX7_table_146 : decode cX7_table 146 = .ok (.iastore, 1) := by decide +kernel
theorem dX7_table_147 : decode cX7_table 147 = .ok (.iinc 2 1, 3) := by decide +kernel
theorem dX7_table_150 : decode cX7_table 150 = .ok (.goto (-129), 3) := by decide +kernel
theorem dX7_table_153 : decode cX7_table 153 = .ok (.return_, 1) := by decide +kernel
theorem dX7_numberOf_0 : decode cX7_numberOf 0 = .ok (.aload_n 0, 1) := by decide +kernel
theorem dX7_numberOf_1 : decode cX7_numberOf 1 = .ok (.iload_n 2, 1) := by decide +kernel
theorem dX7_numberOf_2 : decode cX7_numberOf 2 = .ok (.invokevirtual 99, 3) := by decide +kernel
theorem dX7_numberOf_5 : decode cX7_numberOf 5 = .ok (.iconst 0, 1) := by decide +kernel
theorem dX7_numberOf_6 : decode cX7_numberOf 6 = .ok (.istore_n 3, 1) := by decide +kernel
theorem dX7_numberOf_7 : decode cX7_numberOf 7 = .ok (.iload_n 3, 1) := by decide +kernel
theorem dX7_numberOf_8 : decode cX7_numberOf 8 = .ok (.aload_n 0, 1) := by decide +kernel
theorem dX7_numberOf_9 : decode cX7_numberOf 9 = .ok (.getfield 92, 3) := by decide +kernel
theorem dX7_numberOf_12 : decode cX7_numberOf 12 = .ok (.if_icmp .ge 21, 3) := by decide +kernel
theorem dX7_numberOf_15 : decode cX7_numberOf 15 = .ok (.aload_n 0, 1) := by decide +kernel
theorem dX7_numberOf_16 : decode cX7_numberOf 16 = .ok (.getfield 44, 3) := by decide +kernel
theorem dX7_numberOf_19 : decode cX7_numberOf 19 = .ok (.iload_n 3, 1) := by decide +kernel
theorem dX7_numberOf_20 : decode cX7_numberOf 20 = .ok (.iaload, 1) := by decide +kernel
theorem dX7_numberOf_21 : decode cX7_numberOf 21 = .ok (.iload_n 1, 1) := by decide +kernel
theorem dX7_numberOf_22 : decode cX7_numberOf 22 = .ok (.if_icmp .ne 5, 3) := by decide +kernel
theorem dX7_numberOf_25 : decode cX7_numberOf 25 = .ok (.iload_n 3, 1) := by decide +kernel
theorem dX7_numberOf_26 : decode cX7_numberOf 26 = .ok (.ireturn, 1) := by decide +kernel
theorem dX7_numberOf_27 : decode cX7_numberOf 27 = .ok (.iinc 3 1, 3) := by decide +kernel
theorem dX7_numberOf_30 : decode cX7_numberOf 30 = .ok (.goto (-23), 3) := by decide +kernel
theorem dX7_numberOf_33 : decode cX7_numberOf 33 = .ok (.iconst (-1), 1) := by decide +kernel
theorem dX7_numberOf_34 : decode cX7_numberOf 34 = .ok (.ireturn, 1) := by decide +kernel
theorem dX7_reads_0 : decode cX7_reads 0 = .ok (.iload_n 3, 1) := by decide +kernel
theorem dX7_reads_1 : decode cX7_reads 1 = .ok (.iload 4, 2) := by decide +kernel
theorem dX7_reads_3 : decode cX7_reads 3 = .ok (.if_icmp .le 6, 3) := by decide +kernel
theorem dX7_reads_6 : decode cX7_reads 6 = .ok (.bipush (-5), 2) := by decide +kernel
theorem dX7_reads_8 : decode cX7_reads 8 = .ok (.ireturn, 1) := by decide +kernel
theorem dX7_reads_9 : decode cX7_reads 9 = .ok (.iload_n 3, 1) := by decide +kernel
theorem dX7_reads_10 : decode cX7_reads 10 = .ok (.istore 7, 2) := by decide +kernel
theorem dX7_reads_12 : decode cX7_reads 12 = .ok (.iload 7, 2) := by decide +kernel
theorem dX7_reads_14 : decode cX7_reads 14 = .ok (.iload_n 1, 1) := by decide +kernel
theorem dX7_reads_15 : decode cX7_reads 15 = .ok (.iload_n 2, 1) := by decide +kernel
theorem dX7_reads_16 : decode cX7_reads 16 = .ok (.iload 7, 2) := by decide +kernel
theorem dX7_reads_18 : decode cX7_reads 18 = .ok (.invokestatic 81, 3) := by decide +kernel
theorem dX7_reads_21 : decode cX7_reads 21 = .ok (.iadd, 1) := by decide +kernel
theorem dX7_reads_22 : decode cX7_reads 22 = .ok (.iconst 1, 1) := by decide +kernel
theorem dX7_reads_23 : decode cX7_reads 23 = .ok (.iadd, 1) := by decide +kernel
theorem dX7_reads_24 : decode cX7_reads 24 = .ok (.iload 4, 2) := by decide +kernel
theorem dX7_reads_26 : decode cX7_reads 26 = .ok (.if_icmp .gt 20, 3) := by decide +kernel
theorem dX7_reads_29 : decode cX7_reads 29 = .ok (.iload 7, 2) := by decide +kernel
theorem dX7_reads_31 : decode cX7_reads 31 = .ok (.iload_n 1, 1) := by decide +kernel
theorem dX7_reads_32 : decode cX7_reads 32 = .ok (.iload_n 2, 1) := by decide +kernel
theorem dX7_reads_33 : decode cX7_reads 33 = .ok (.iload 7, 2) := by decide +kernel
theorem dX7_reads_35 : decode cX7_reads 35 = .ok (.invokestatic 81, 3) := by decide +kernel
theorem dX7_reads_38 : decode cX7_reads 38 = .ok (.iconst 1, 1) := by decide +kernel
theorem dX7_reads_39 : decode cX7_reads 39 = .ok (.iadd, 1) := by decide +kernel
theorem dX7_reads_40 : decode cX7_reads 40 = .ok (.iadd, 1) := by decide +kernel
theorem dX7_reads_41 : decode cX7_reads 41 = .ok (.istore 7, 2) := by decide +kernel
theorem dX7_reads_43 : decode cX7_reads 43 = .ok (.goto (-31), 3) := by decide +kernel
theorem dX7_reads_46 : decode cX7_reads 46 = .ok (.aload_n 0, 1) := by decide +kernel
theorem dX7_reads_47 : decode cX7_reads 47 = .ok (.getfield 47, 3) := by decide +kernel
theorem dX7_reads_50 : decode cX7_reads 50 = .ok (.iload 7, 2) := by decide +kernel
theorem dX7_reads_52 : decode cX7_reads 52 = .ok (.iload 5, 2) := by decide +kernel
theorem dX7_reads_54 : decode cX7_reads 54 = .ok (.iastore, 1) := by decide +kernel
theorem dX7_reads_55 : decode cX7_reads 55 = .ok (.aload_n 0, 1) := by decide +kernel
theorem dX7_reads_56 : decode cX7_reads 56 = .ok (.getfield 59, 3) := by decide +kernel
theorem dX7_reads_59 : decode cX7_reads 59 = .ok (.iload 7, 2) := by decide +kernel
theorem dX7_reads_61 : decode cX7_reads 61 = .ok (.iload 6, 2) := by decide +kernel
theorem dX7_reads_63 : decode cX7_reads 63 = .ok (.iastore, 1) := by decide +kernel
theorem dX7_reads_64 : decode cX7_reads 64 = .ok (.aload_n 0, 1) := by decide +kernel
theorem dX7_reads_65 : decode cX7_reads 65 = .ok (.getfield 56, 3) := by decide +kernel
theorem dX7_reads_68 : decode cX7_reads 68 = .ok (.iload 7, 2) := by decide +kernel
theorem dX7_reads_70 : decode cX7_reads 70 = .ok (.iload 7, 2) := by decide +kernel
theorem dX7_reads_72 : decode cX7_reads 72 = .ok (.iload_n 3, 1) := by decide +kernel
theorem dX7_reads_73 : decode cX7_reads 73 = .ok (.isub, 1) := by decide +kernel
theorem dX7_reads_74 : decode cX7_reads 74 = .ok (.iastore, 1) := by decide +kernel
theorem dX7_reads_75 : decode cX7_reads 75 = .ok (.aload_n 0, 1) := by decide +kernel
theorem dX7_reads_76 : decode cX7_reads 76 = .ok (.getfield 50, 3) := by decide +kernel
theorem dX7_reads_79 : decode cX7_reads 79 = .ok (.iload 7, 2) := by decide +kernel
theorem dX7_reads_81 : decode cX7_reads 81 = .ok (.aload_n 0, 1) := by decide +kernel
theorem dX7_reads_82 : decode cX7_reads 82 = .ok (.iload_n 1, 1) := by decide +kernel
theorem dX7_reads_83 : decode cX7_reads 83 = .ok (.iload_n 2, 1) := by decide +kernel
theorem dX7_reads_84 : decode cX7_reads 84 = .ok (.iload_n 3, 1) := by decide +kernel
theorem dX7_reads_85 : decode cX7_reads 85 = .ok (.iload 7, 2) := by decide +kernel
theorem dX7_reads_87 : decode cX7_reads 87 = .ok (.iconst 1, 1) := by decide +kernel
theorem dX7_reads_88 : decode cX7_reads 88 = .ok (.isub, 1) := by decide +kernel
theorem dX7_reads_89 : decode cX7_reads 89 = .ok (.iload 7, 2) := by decide +kernel
theorem dX7_reads_91 : decode cX7_reads 91 = .ok (.iload 6, 2) := by decide +kernel
theorem dX7_reads_93 : decode cX7_reads 93 = .ok (.iconst 1, 1) := by decide +kernel
theorem dX7_reads_94 : decode cX7_reads 94 = .ok (.iadd, 1) := by decide +kernel
theorem dX7_reads_95 : decode cX7_reads 95 = .ok (.invokevirtual 103, 3) := by decide +kernel
theorem dX7_reads_98 : decode cX7_reads 98 = .ok (.iastore, 1) := by decide +kernel
theorem dX7_reads_99 : decode cX7_reads 99 = .ok (.aload_n 0, 1) := by decide +kernel
theorem dX7_reads_100 : decode cX7_reads 100 = .ok (.getfield 53, 3) := by decide +kernel
theorem dX7_reads_103 : decode cX7_reads 103 = .ok (.iload 7, 2) := by decide +kernel
theorem dX7_reads_105 : decode cX7_reads 105 = .ok (.aload_n 0, 1) := by decide +kernel
theorem dX7_reads_106 : decode cX7_reads 106 = .ok (.iload_n 1, 1) := by decide +kernel
theorem dX7_reads_107 : decode cX7_reads 107 = .ok (.iload_n 2, 1) := by decide +kernel
theorem dX7_reads_108 : decode cX7_reads 108 = .ok (.iload 7, 2) := by decide +kernel
theorem dX7_reads_110 : decode cX7_reads 110 = .ok (.iconst 1, 1) := by decide +kernel
theorem dX7_reads_111 : decode cX7_reads 111 = .ok (.iadd, 1) := by decide +kernel
theorem dX7_reads_112 : decode cX7_reads 112 = .ok (.iload 4, 2) := by decide +kernel
theorem dX7_reads_114 : decode cX7_reads 114 = .ok (.iload 7, 2) := by decide +kernel
theorem dX7_reads_116 : decode cX7_reads 116 = .ok (.iload 6, 2) := by decide +kernel
theorem dX7_reads_118 : decode cX7_reads 118 = .ok (.iconst 1, 1) := by decide +kernel
theorem dX7_reads_119 : decode cX7_reads 119 = .ok (.iadd, 1) := by decide +kernel
theorem dX7_reads_120 : decode cX7_reads 120 = .ok (.invokevirtual 103, 3) := by decide +kernel
theorem dX7_reads_123 : decode cX7_reads 123 = .ok (.iastore, 1) := by decide +kernel
theorem dX7_reads_124 : decode cX7_reads 124 = .ok (.iload 7, 2) := by decide +kernel
theorem dX7_reads_126 : decode cX7_reads 126 = .ok (.ireturn, 1) := by decide +kernel
theorem dX7_looks_0 : decode cX7_looks 0 = .ok (.aload_n 0, 1) := by decide +kernel
theorem dX7_looks_1 : decode cX7_looks 1 = .ok (.aload_n 0, 1) := by decide +kernel
theorem dX7_looks_2 : decode cX7_looks 2 = .ok (.iload_n 1, 1) := by decide +kernel
theorem dX7_looks_3 : decode cX7_looks 3 = .ok (.iload_n 2, 1) := by decide +kernel
theorem dX7_looks_4 : decode cX7_looks 4 = .ok (.iconst 0, 1) := by decide +kernel
theorem dX7_looks_5 : decode cX7_looks 5 = .ok (.iload_n 2, 1) := by decide +kernel
theorem dX7_looks_6 : decode cX7_looks 6 = .ok (.iconst 1, 1) := by decide +kernel
theorem dX7_looks_7 : decode cX7_looks 7 = .ok (.isub, 1) := by decide +kernel
theorem dX7_looks_8 : decode cX7_looks 8 = .ok (.bipush (-5), 2) := by decide +kernel
theorem dX7_looks_10 : decode cX7_looks 10 = .ok (.iconst 0, 1) := by decide +kernel
theorem dX7_looks_11 : decode cX7_looks 11 = .ok (.invokevirtual 103, 3) := by decide +kernel
theorem dX7_looks_14 : decode cX7_looks 14 = .ok (.putfield 107, 3) := by decide +kernel
theorem dX7_looks_17 : decode cX7_looks 17 = .ok (.return_, 1) := by decide +kernel
theorem dX7_up_0 : decode cX7_up 0 = .ok (.aload_n 0, 1) := by decide +kernel
theorem dX7_up_1 : decode cX7_up 1 = .ok (.iload_n 1, 1) := by decide +kernel
theorem dX7_up_2 : decode cX7_up 2 = .ok (.iload_n 2, 1) := by decide +kernel
theorem dX7_up_3 : decode cX7_up 3 = .ok (.invokevirtual 110, 3) := by decide +kernel
theorem dX7_up_6 : decode cX7_up 6 = .ok (.aload_n 0, 1) := by decide +kernel
theorem dX7_up_7 : decode cX7_up 7 = .ok (.getfield 47, 3) := by decide +kernel
theorem dX7_up_10 : decode cX7_up 10 = .ok (.iload_n 3, 1) := by decide +kernel
theorem dX7_up_11 : decode cX7_up 11 = .ok (.iaload, 1) := by decide +kernel
theorem dX7_up_12 : decode cX7_up 12 = .ok (.istore 4, 2) := by decide +kernel
theorem dX7_up_14 : decode cX7_up 14 = .ok (.iload 4, 2) := by decide +kernel
theorem dX7_up_16 : decode cX7_up 16 = .ok (.bipush (-5), 2) := by decide +kernel
theorem dX7_up_18 : decode cX7_up 18 = .ok (.if_icmp .eq 14, 3) := by decide +kernel
theorem dX7_up_21 : decode cX7_up 21 = .ok (.aload_n 0, 1) := by decide +kernel
theorem dX7_up_22 : decode cX7_up 22 = .ok (.getfield 50, 3) := by decide +kernel
theorem dX7_up_25 : decode cX7_up 25 = .ok (.iload 4, 2) := by decide +kernel
theorem dX7_up_27 : decode cX7_up 27 = .ok (.iaload, 1) := by decide +kernel
theorem dX7_up_28 : decode cX7_up 28 = .ok (.iload_n 3, 1) := by decide +kernel
theorem dX7_up_29 : decode cX7_up 29 = .ok (.if_icmp .eq 6, 3) := by decide +kernel
theorem dX7_up_32 : decode cX7_up 32 = .ok (.bipush (-5), 2) := by decide +kernel
theorem dX7_up_34 : decode cX7_up 34 = .ok (.ireturn, 1) := by decide +kernel
theorem dX7_up_35 : decode cX7_up 35 = .ok (.iload_n 1, 1) := by decide +kernel
theorem dX7_up_36 : decode cX7_up 36 = .ok (.iload_n 2, 1) := by decide +kernel
theorem dX7_up_37 : decode cX7_up 37 = .ok (.iload_n 3, 1) := by decide +kernel
theorem dX7_up_38 : decode cX7_up 38 = .ok (.iload_n 1, 1) := by decide +kernel
theorem dX7_up_39 : decode cX7_up 39 = .ok (.iload_n 2, 1) := by decide +kernel
theorem dX7_up_40 : decode cX7_up 40 = .ok (.iload_n 3, 1) := by decide +kernel
theorem dX7_up_41 : decode cX7_up 41 = .ok (.invokestatic 81, 3) := by decide +kernel
theorem dX7_up_44 : decode cX7_up 44 = .ok (.iconst 1, 1) := by decide +kernel
theorem dX7_up_45 : decode cX7_up 45 = .ok (.iadd, 1) := by decide +kernel
theorem dX7_up_46 : decode cX7_up 46 = .ok (.iload_n 1, 1) := by decide +kernel
theorem dX7_up_47 : decode cX7_up 47 = .ok (.iload_n 2, 1) := by decide +kernel
theorem dX7_up_48 : decode cX7_up 48 = .ok (.iload 4, 2) := by decide +kernel
theorem dX7_up_50 : decode cX7_up 50 = .ok (.invokestatic 81, 3) := by decide +kernel
theorem dX7_up_53 : decode cX7_up 53 = .ok (.iadd, 1) := by decide +kernel
theorem dX7_up_54 : decode cX7_up 54 = .ok (.invokestatic 114, 3) := by decide +kernel
theorem dX7_up_57 : decode cX7_up 57 = .ok (.ireturn, 1) := by decide +kernel
theorem dX7_down_0 : decode cX7_down 0 = .ok (.aload_n 0, 1) := by decide +kernel
theorem dX7_down_1 : decode cX7_down 1 = .ok (.iload_n 1, 1) := by decide +kernel
theorem dX7_down_2 : decode cX7_down 2 = .ok (.iload_n 2, 1) := by decide +kernel
theorem dX7_down_3 : decode cX7_down 3 = .ok (.invokevirtual 110, 3) := by decide +kernel
theorem dX7_down_6 : decode cX7_down 6 = .ok (.aload_n 0, 1) := by decide +kernel
theorem dX7_down_7 : decode cX7_down 7 = .ok (.getfield 53, 3) := by decide +kernel
theorem dX7_down_10 : decode cX7_down 10 = .ok (.iload_n 3, 1) := by decide +kernel
theorem dX7_down_11 : decode cX7_down 11 = .ok (.iaload, 1) := by decide +kernel
theorem dX7_down_12 : decode cX7_down 12 = .ok (.bipush (-5), 2) := by decide +kernel
theorem dX7_down_14 : decode cX7_down 14 = .ok (.if_icmp .ne 8, 3) := by decide +kernel
theorem dX7_down_17 : decode cX7_down 17 = .ok (.bipush (-5), 2) := by decide +kernel
theorem dX7_down_19 : decode cX7_down 19 = .ok (.goto 19, 3) := by decide +kernel
theorem dX7_down_22 : decode cX7_down 22 = .ok (.iload_n 1, 1) := by decide +kernel
theorem dX7_down_23 : decode cX7_down 23 = .ok (.iload_n 2, 1) := by decide +kernel
theorem dX7_down_24 : decode cX7_down 24 = .ok (.iload_n 3, 1) := by decide +kernel
theorem dX7_down_25 : decode cX7_down 25 = .ok (.aload_n 0, 1) := by decide +kernel
theorem dX7_down_26 : decode cX7_down 26 = .ok (.getfield 53, 3) := by decide +kernel
theorem dX7_down_29 : decode cX7_down 29 = .ok (.iload_n 3, 1) := by decide +kernel
theorem dX7_down_30 : decode cX7_down 30 = .ok (.iaload, 1) := by decide +kernel
theorem dX7_down_31 : decode cX7_down 31 = .ok (.iload_n 3, 1) := by decide +kernel
theorem dX7_down_32 : decode cX7_down 32 = .ok (.isub, 1) := by decide +kernel
theorem dX7_down_33 : decode cX7_down 33 = .ok (.iconst 1, 1) := by decide +kernel
theorem dX7_down_34 : decode cX7_down 34 = .ok (.isub, 1) := by decide +kernel
theorem dX7_down_35 : decode cX7_down 35 = .ok (.invokestatic 114, 3) := by decide +kernel
theorem dX7_down_38 : decode cX7_down 38 = .ok (.ireturn, 1) := by decide +kernel
theorem dX7_mirrored_0 : decode cX7_mirrored 0 = .ok (.aload_n 0, 1) := by decide +kernel
theorem dX7_mirrored_1 : decode cX7_mirrored 1 = .ok (.iload_n 1, 1) := by decide +kernel
theorem dX7_mirrored_2 : decode cX7_mirrored 2 = .ok (.iload_n 2, 1) := by decide +kernel
theorem dX7_mirrored_3 : decode cX7_mirrored 3 = .ok (.invokevirtual 110, 3) := by decide +kernel
theorem dX7_mirrored_6 : decode cX7_mirrored 6 = .ok (.iconst 0, 1) := by decide +kernel
theorem dX7_mirrored_7 : decode cX7_mirrored 7 = .ok (.istore_n 3, 1) := by decide +kernel
theorem dX7_mirrored_8 : decode cX7_mirrored 8 = .ok (.iconst 0, 1) := by decide +kernel
theorem dX7_mirrored_9 : decode cX7_mirrored 9 = .ok (.istore 4, 2) := by decide +kernel
theorem dX7_mirrored_11 : decode cX7_mirrored 11 = .ok (.iload 4, 2) := by decide +kernel
theorem dX7_mirrored_13 : decode cX7_mirrored 13 = .ok (.iload_n 2, 1) := by decide +kernel
theorem dX7_mirrored_14 : decode cX7_mirrored 14 = .ok (.if_icmp .ge 26, 3) := by decide +kernel
theorem dX7_mirrored_17 : decode cX7_mirrored 17 = .ok (.bipush 10, 2) := by decide +kernel
theorem dX7_mirrored_19 : decode cX7_mirrored 19 = .ok (.iload_n 3, 1) := by decide +kernel
theorem dX7_mirrored_20 : decode cX7_mirrored 20 = .ok (.imul, 1) := by decide +kernel
theorem dX7_mirrored_21 : decode cX7_mirrored 21 = .ok (.aload_n 0, 1) := by decide +kernel
theorem dX7_mirrored_22 : decode cX7_mirrored 22 = .ok (.getfield 56, 3) := by decide +kernel
theorem dX7_mirrored_25 : decode cX7_mirrored 25 = .ok (.iload_n 2, 1) := by decide +kernel
theorem dX7_mirrored_26 : decode cX7_mirrored 26 = .ok (.iconst 1, 1) := by decide +kernel
theorem dX7_mirrored_27 : decode cX7_mirrored 27 = .ok (.isub, 1) := by decide +kernel
theorem dX7_mirrored_28 : decode cX7_mirrored 28 = .ok (.iload 4, 2) := by decide +kernel
theorem dX7_mirrored_30 : decode cX7_mirrored 30 = .ok (.isub, 1) := by decide +kernel
theorem dX7_mirrored_31 : decode cX7_mirrored 31 = .ok (.iaload, 1) := by decide +kernel
theorem dX7_mirrored_32 : decode cX7_mirrored 32 = .ok (.iadd, 1) := by decide +kernel
theorem dX7_mirrored_33 : decode cX7_mirrored 33 = .ok (.istore_n 3, 1) := by decide +kernel
theorem dX7_mirrored_34 : decode cX7_mirrored 34 = .ok (.iinc 4 1, 3) := by decide +kernel
theorem dX7_mirrored_37 : decode cX7_mirrored 37 = .ok (.goto (-26), 3) := by decide +kernel
theorem dX7_mirrored_40 : decode cX7_mirrored 40 = .ok (.iload_n 3, 1) := by decide +kernel
theorem dX7_mirrored_41 : decode cX7_mirrored 41 = .ok (.ireturn, 1) := by decide +kernel
theorem dX7_isBelow_0 : decode cX7_isBelow 0 = .ok (.iconst 0, 1) := by decide +kernel
theorem dX7_isBelow_1 : decode cX7_isBelow 1 = .ok (.istore_n 3, 1) := by decide +kernel
theorem dX7_isBelow_2 : decode cX7_isBelow 2 = .ok (.iload_n 3, 1) := by decide +kernel
theorem dX7_isBelow_3 : decode cX7_isBelow 3 = .ok (.iload_n 2, 1) := by decide +kernel
theorem dX7_isBelow_4 : decode cX7_isBelow 4 = .ok (.if_icmp .ge 26, 3) := by decide +kernel
theorem dX7_isBelow_7 : decode cX7_isBelow 7 = .ok (.iload_n 0, 1) := by decide +kernel
theorem dX7_isBelow_8 : decode cX7_isBelow 8 = .ok (.iload_n 2, 1) := by decide +kernel
theorem dX7_isBelow_9 : decode cX7_isBelow 9 = .ok (.iload_n 3, 1) := by decide +kernel
theorem dX7_isBelow_10 : decode cX7_isBelow 10 = .ok (.invokestatic 81, 3) := by decide +kernel
theorem dX7_isBelow_13 : decode cX7_isBelow 13 = .ok (.iload_n 1, 1) := by decide +kernel
theorem dX7_isBelow_14 : decode cX7_isBelow 14 = .ok (.iload_n 2, 1) := by decide +kernel
theorem dX7_isBelow_15 : decode cX7_isBelow 15 = .ok (.iload_n 3, 1) := by decide +kernel
theorem dX7_isBelow_16 : decode cX7_isBelow 16 = .ok (.invokestatic 81, 3) := by decide +kernel
theorem dX7_isBelow_19 : decode cX7_isBelow 19 = .ok (.if_icmp .le 5, 3) := by decide +kernel
theorem dX7_isBelow_22 : decode cX7_isBelow 22 = .ok (.iconst 0, 1) := by decide +kernel
theorem dX7_isBelow_23 : decode cX7_isBelow 23 = .ok (.ireturn, 1) := by decide +kernel
theorem dX7_isBelow_24 : decode cX7_isBelow 24 = .ok (.iinc 3 1, 3) := by decide +kernel
theorem dX7_isBelow_27 : decode cX7_isBelow 27 = .ok (.goto (-25), 3) := by decide +kernel
theorem dX7_isBelow_30 : decode cX7_isBelow 30 = .ok (.iconst 1, 1) := by decide +kernel
theorem dX7_isBelow_31 : decode cX7_isBelow 31 = .ok (.ireturn, 1) := by decide +kernel
theorem dX7_becomes_0 : decode cX7_becomes 0 = .ok (.iload_n 1, 1) := by decide +kernel
theorem dX7_becomes_1 : decode cX7_becomes 1 = .ok (.aload_n 0, 1) := by decide +kernel
theorem dX7_becomes_2 : decode cX7_becomes 2 = .ok (.getfield 9, 3) := by decide +kernel
theorem dX7_becomes_5 : decode cX7_becomes 5 = .ok (.if_icmp .ne 12, 3) := by decide +kernel
theorem dX7_becomes_8 : decode cX7_becomes 8 = .ok (.iload_n 2, 1) := by decide +kernel
theorem dX7_becomes_9 : decode cX7_becomes 9 = .ok (.aload_n 0, 1) := by decide +kernel
theorem dX7_becomes_10 : decode cX7_becomes 10 = .ok (.getfield 118, 3) := by decide +kernel
theorem dX7_becomes_13 : decode cX7_becomes 13 = .ok (.if_icmp .ne 4, 3) := by decide +kernel
theorem dX7_becomes_16 : decode cX7_becomes 16 = .ok (.return_, 1) := by decide +kernel
theorem dX7_becomes_17 : decode cX7_becomes 17 = .ok (.aload_n 0, 1) := by decide +kernel
theorem dX7_becomes_18 : decode cX7_becomes 18 = .ok (.getfield 121, 3) := by decide +kernel
theorem dX7_becomes_21 : decode cX7_becomes 21 = .ok (.bipush 10, 2) := by decide +kernel
theorem dX7_becomes_23 : decode cX7_becomes 23 = .ok (.if_icmp .ne 55, 3) := by decide +kernel
theorem dX7_becomes_26 : decode cX7_becomes 26 = .ok (.iconst 1, 1) := by decide +kernel
theorem dX7_becomes_27 : decode cX7_becomes 27 = .ok (.istore_n 3, 1) := by decide +kernel
theorem dX7_becomes_28 : decode cX7_becomes 28 = .ok (.iload_n 3, 1) := by decide +kernel
theorem dX7_becomes_29 : decode cX7_becomes 29 = .ok (.bipush 10, 2) := by decide +kernel
theorem dX7_becomes_31 : decode cX7_becomes 31 = .ok (.if_icmp .ge 37, 3) := by decide +kernel
theorem dX7_becomes_34 : decode cX7_becomes 34 = .ok (.aload_n 0, 1) := by decide +kernel
theorem dX7_becomes_35 : decode cX7_becomes 35 = .ok (.getfield 22, 3) := by decide +kernel
theorem dX7_becomes_38 : decode cX7_becomes 38 = .ok (.iload_n 3, 1) := by decide +kernel
theorem dX7_becomes_39 : decode cX7_becomes 39 = .ok (.iconst 1, 1) := by decide +kernel
theorem dX7_becomes_40 : decode cX7_becomes 40 = .ok (.isub, 1) := by decide +kernel
theorem dX7_becomes_41 : decode cX7_becomes 41 = .ok (.aload_n 0, 1) := by decide +kernel
theorem dX7_becomes_42 : decode cX7_becomes 42 = .ok (.getfield 22, 3) := by decide +kernel
theorem dX7_becomes_45 : decode cX7_becomes 45 = .ok (.iload_n 3, 1) := by decide +kernel
theorem dX7_becomes_46 : decode cX7_becomes 46 = .ok (.iaload, 1) := by decide +kernel
theorem dX7_becomes_47 : decode cX7_becomes 47 = .ok (.iastore, 1) := by decide +kernel
theorem dX7_becomes_48 : decode cX7_becomes 48 = .ok (.aload_n 0, 1) := by decide +kernel
theorem dX7_becomes_49 : decode cX7_becomes 49 = .ok (.getfield 25, 3) := by decide +kernel
theorem dX7_becomes_52 : decode cX7_becomes 52 = .ok (.iload_n 3, 1) := by decide +kernel
theorem dX7_becomes_53 : decode cX7_becomes 53 = .ok (.iconst 1, 1) := by decide +kernel
theorem dX7_becomes_54 : decode cX7_becomes 54 = .ok (.isub, 1) := by decide +kernel
theorem dX7_becomes_55 : decode cX7_becomes 55 = .ok (.aload_n 0, 1) := by decide +kernel
theorem dX7_becomes_56 : decode cX7_becomes 56 = .ok (.getfield 25, 3) := by decide +kernel
theorem dX7_becomes_59 : decode cX7_becomes 59 = .ok (.iload_n 3, 1) := by decide +kernel
theorem dX7_becomes_60 : decode cX7_becomes 60 = .ok (.iaload, 1) := by decide +kernel
theorem dX7_becomes_61 : decode cX7_becomes 61 = .ok (.iastore, 1) := by decide +kernel
theorem dX7_becomes_62 : decode cX7_becomes 62 = .ok (.iinc 3 1, 3) := by decide +kernel
theorem dX7_becomes_65 : decode cX7_becomes 65 = .ok (.goto (-37), 3) := by decide +kernel
theorem dX7_becomes_68 : decode cX7_becomes 68 = .ok (.aload_n 0, 1) := by decide +kernel
theorem dX7_becomes_69 : decode cX7_becomes 69 = .ok (.dup, 1) := by decide +kernel
theorem dX7_becomes_70 : decode cX7_becomes 70 = .ok (.getfield 121, 3) := by decide +kernel
theorem dX7_becomes_73 : decode cX7_becomes 73 = .ok (.iconst 1, 1) := by decide +kernel
theorem dX7_becomes_74 : decode cX7_becomes 74 = .ok (.isub, 1) := by decide +kernel
theorem dX7_becomes_75 : decode cX7_becomes 75 = .ok (.putfield 121, 3) := by decide +kernel
theorem dX7_becomes_78 : decode cX7_becomes 78 = .ok (.aload_n 0, 1) := by decide +kernel
theorem dX7_becomes_79 : decode cX7_becomes 79 = .ok (.getfield 22, 3) := by decide +kernel
theorem dX7_becomes_82 : decode cX7_becomes 82 = .ok (.aload_n 0, 1) := by decide +kernel
theorem dX7_becomes_83 : decode cX7_becomes 83 = .ok (.getfield 121, 3) := by decide +kernel
theorem dX7_becomes_86 : decode cX7_becomes 86 = .ok (.aload_n 0, 1) := by decide +kernel
theorem dX7_becomes_87 : decode cX7_becomes 87 = .ok (.getfield 9, 3) := by decide +kernel
theorem dX7_becomes_90 : decode cX7_becomes 90 = .ok (.iastore, 1) := by decide +kernel
theorem dX7_becomes_91 : decode cX7_becomes 91 = .ok (.aload_n 0, 1) := by decide +kernel
theorem dX7_becomes_92 : decode cX7_becomes 92 = .ok (.getfield 25, 3) := by decide +kernel
theorem dX7_becomes_95 : decode cX7_becomes 95 = .ok (.aload_n 0, 1) := by decide +kernel
theorem dX7_becomes_96 : decode cX7_becomes 96 = .ok (.getfield 121, 3) := by decide +kernel
theorem dX7_becomes_99 : decode cX7_becomes 99 = .ok (.aload_n 0, 1) := by decide +kernel
theorem dX7_becomes_100 : decode cX7_becomes 100 = .ok (.getfield 118, 3) := by decide +kernel
theorem dX7_becomes_103 : decode cX7_becomes 103 = .ok (.iastore, 1) := by decide +kernel
theorem dX7_becomes_104 : decode cX7_becomes 104 = .ok (.aload_n 0, 1) := by decide +kernel
theorem dX7_becomes_105 : decode cX7_becomes 105 = .ok (.dup, 1) := by decide +kernel
theorem dX7_becomes_106 : decode cX7_becomes 106 = .ok (.getfield 121, 3) := by decide +kernel
theorem dX7_becomes_109 : decode cX7_becomes 109 = .ok (.iconst 1, 1) := by decide +kernel
theorem dX7_becomes_110 : decode cX7_becomes 110 = .ok (.iadd, 1) := by decide +kernel
theorem dX7_becomes_111 : decode cX7_becomes 111 = .ok (.putfield 121, 3) := by decide +kernel
theorem dX7_becomes_114 : decode cX7_becomes 114 = .ok (.aload_n 0, 1) := by decide +kernel
theorem dX7_becomes_115 : decode cX7_becomes 115 = .ok (.iload_n 1, 1) := by decide +kernel
theorem dX7_becomes_116 : decode cX7_becomes 116 = .ok (.putfield 9, 3) := by decide +kernel
theorem dX7_becomes_119 : decode cX7_becomes 119 = .ok (.aload_n 0, 1) := by decide +kernel
theorem dX7_becomes_120 : decode cX7_becomes 120 = .ok (.iload_n 2, 1) := by decide +kernel
theorem dX7_becomes_121 : decode cX7_becomes 121 = .ok (.putfield 118, 3) := by decide +kernel
theorem dX7_becomes_124 : decode cX7_becomes 124 = .ok (.return_, 1) := by decide +kernel
theorem dX7_isNode_0 : decode cX7_isNode 0 = .ok (.iload_n 1, 1) := by decide +kernel
theorem dX7_isNode_1 : decode cX7_isNode 1 = .ok (.i2l, 1) := by decide +kernel
theorem dX7_isNode_2 : decode cX7_isNode 2 = .ok (.lconst 0, 1) := by decide +kernel
theorem dX7_isNode_3 : decode cX7_isNode 3 = .ok (.aload_n 0, 1) := by decide +kernel
theorem dX7_isNode_4 : decode cX7_isNode 4 = .ok (.getfield 9, 3) := by decide +kernel
theorem dX7_isNode_7 : decode cX7_isNode 7 = .ok (.iconst 1, 1) := by decide +kernel
theorem dX7_isNode_8 : decode cX7_isNode 8 = .ok (.isub, 1) := by decide +kernel
theorem dX7_isNode_9 : decode cX7_isNode 9 = .ok (.i2l, 1) := by decide +kernel
theorem dX7_isNode_10 : decode cX7_isNode 10 = .ok (.invokestatic 85, 3) := by decide +kernel
theorem dX7_isNode_13 : decode cX7_isNode 13 = .ok (.ireturn, 1) := by decide +kernel
theorem dX7_nodes_0 : decode cX7_nodes 0 = .ok (.iload_n 1, 1) := by decide +kernel
theorem dX7_nodes_1 : decode cX7_nodes 1 = .ok (.i2l, 1) := by decide +kernel
theorem dX7_nodes_2 : decode cX7_nodes 2 = .ok (.lconst 1, 1) := by decide +kernel
theorem dX7_nodes_3 : decode cX7_nodes 3 = .ok (.ldc2_w 124, 3) := by decide +kernel
theorem dX7_nodes_6 : decode cX7_nodes 6 = .ok (.invokestatic 85, 3) := by decide +kernel
theorem dX7_nodes_9 : decode cX7_nodes 9 = .ok (.ifCond .ne 6, 3) := by decide +kernel
theorem dX7_nodes_12 : decode cX7_nodes 12 = .ok (.bipush (-2), 2) := by decide +kernel
theorem dX7_nodes_14 : decode cX7_nodes 14 = .ok (.ireturn, 1) := by decide +kernel
theorem dX7_nodes_15 : decode cX7_nodes 15 = .ok (.aload_n 0, 1) := by decide +kernel
theorem dX7_nodes_16 : decode cX7_nodes 16 = .ok (.getfield 9, 3) := by decide +kernel
theorem dX7_nodes_19 : decode cX7_nodes 19 = .ok (.istore_n 2, 1) := by decide +kernel
theorem dX7_nodes_20 : decode cX7_nodes 20 = .ok (.aload_n 0, 1) := by decide +kernel
theorem dX7_nodes_21 : decode cX7_nodes 21 = .ok (.iload_n 1, 1) := by decide +kernel
theorem dX7_nodes_22 : decode cX7_nodes 22 = .ok (.putfield 9, 3) := by decide +kernel
theorem dX7_nodes_25 : decode cX7_nodes 25 = .ok (.aload_n 0, 1) := by decide +kernel
theorem dX7_nodes_26 : decode cX7_nodes 26 = .ok (.iconst 0, 1) := by decide +kernel
theorem dX7_nodes_27 : decode cX7_nodes 27 = .ok (.putfield 118, 3) := by decide +kernel
theorem dX7_nodes_30 : decode cX7_nodes 30 = .ok (.aload_n 0, 1) := by decide +kernel
theorem dX7_nodes_31 : decode cX7_nodes 31 = .ok (.iconst 0, 1) := by decide +kernel
theorem dX7_nodes_32 : decode cX7_nodes 32 = .ok (.putfield 121, 3) := by decide +kernel
theorem dX7_nodes_35 : decode cX7_nodes 35 = .ok (.iload_n 2, 1) := by decide +kernel
theorem dX7_nodes_36 : decode cX7_nodes 36 = .ok (.ireturn, 1) := by decide +kernel
theorem dX7_row_0 : decode cX7_row 0 = .ok (.iload_n 1, 1) := by decide +kernel
theorem dX7_row_1 : decode cX7_row 1 = .ok (.aload_n 0, 1) := by decide +kernel
theorem dX7_row_2 : decode cX7_row 2 = .ok (.getfield 9, 3) := by decide +kernel
theorem dX7_row_5 : decode cX7_row 5 = .ok (.invokestatic 95, 3) := by decide +kernel
theorem dX7_row_8 : decode cX7_row 8 = .ok (.ifCond .ne 6, 3) := by decide +kernel
theorem dX7_row_11 : decode cX7_row 11 = .ok (.bipush (-2), 2) := by decide +kernel
theorem dX7_row_13 : decode cX7_row 13 = .ok (.ireturn, 1) := by decide +kernel
theorem dX7_row_14 : decode cX7_row 14 = .ok (.aload_n 0, 1) := by decide +kernel
theorem dX7_row_15 : decode cX7_row 15 = .ok (.aload_n 0, 1) := by decide +kernel
theorem dX7_row_16 : decode cX7_row 16 = .ok (.getfield 9, 3) := by decide +kernel
theorem dX7_row_19 : decode cX7_row 19 = .ok (.iload_n 1, 1) := by decide +kernel
theorem dX7_row_20 : decode cX7_row 20 = .ok (.invokevirtual 126, 3) := by decide +kernel
theorem dX7_row_23 : decode cX7_row 23 = .ok (.aload_n 0, 1) := by decide +kernel
theorem dX7_row_24 : decode cX7_row 24 = .ok (.invokevirtual 129, 3) := by decide +kernel
theorem dX7_row_27 : decode cX7_row 27 = .ok (.ireturn, 1) := by decide +kernel
theorem dX7_of_0 : decode cX7_of 0 = .ok (.aload_n 0, 1) := by decide +kernel
theorem dX7_of_1 : decode cX7_of 1 = .ok (.iload_n 1, 1) := by decide +kernel
theorem dX7_of_2 : decode cX7_of 2 = .ok (.invokevirtual 133, 3) := by decide +kernel
theorem dX7_of_5 : decode cX7_of 5 = .ok (.ifCond .eq 15, 3) := by decide +kernel
theorem dX7_of_8 : decode cX7_of 8 = .ok (.iload_n 2, 1) := by decide +kernel
theorem dX7_of_9 : decode cX7_of 9 = .ok (.i2l, 1) := by decide +kernel
theorem dX7_of_10 : decode cX7_of 10 = .ok (.lconst 0, 1) := by decide +kernel
theorem dX7_of_11 : decode cX7_of 11 = .ok (.ldc2_w 137, 3) := by decide +kernel
theorem dX7_of_14 : decode cX7_of 14 = .ok (.invokestatic 85, 3) := by decide +kernel
theorem dX7_of_17 : decode cX7_of 17 = .ok (.ifCond .ne 5, 3) := by decide +kernel
theorem dX7_of_20 : decode cX7_of 20 = .ok (.iconst (-1), 1) := by decide +kernel
theorem dX7_of_21 : decode cX7_of 21 = .ok (.ireturn, 1) := by decide +kernel
theorem dX7_of_22 : decode cX7_of 22 = .ok (.aload_n 0, 1) := by decide +kernel
theorem dX7_of_23 : decode cX7_of 23 = .ok (.aload_n 0, 1) := by decide +kernel
theorem dX7_of_24 : decode cX7_of 24 = .ok (.getfield 118, 3) := by decide +kernel
theorem dX7_of_27 : decode cX7_of 27 = .ok (.aload_n 0, 1) := by decide +kernel
theorem dX7_of_28 : decode cX7_of 28 = .ok (.getfield 9, 3) := by decide +kernel
theorem dX7_of_31 : decode cX7_of 31 = .ok (.invokevirtual 110, 3) := by decide +kernel
theorem dX7_of_34 : decode cX7_of 34 = .ok (.iload_n 2, 1) := by decide +kernel
theorem dX7_of_35 : decode cX7_of 35 = .ok (.tableswitch 74 0 4 #[33, 46, 53, 60, 67], 33) := by decide +kernel
theorem dX7_of_68 : decode cX7_of 68 = .ok (.aload_n 0, 1) := by decide +kernel
theorem dX7_of_69 : decode cX7_of 69 = .ok (.getfield 118, 3) := by decide +kernel
theorem dX7_of_72 : decode cX7_of 72 = .ok (.aload_n 0, 1) := by decide +kernel
theorem dX7_of_73 : decode cX7_of 73 = .ok (.getfield 9, 3) := by decide +kernel
theorem dX7_of_76 : decode cX7_of 76 = .ok (.iload_n 1, 1) := by decide +kernel
theorem dX7_of_77 : decode cX7_of 77 = .ok (.invokestatic 81, 3) := by decide +kernel
theorem dX7_of_80 : decode cX7_of 80 = .ok (.ireturn, 1) := by decide +kernel
theorem dX7_of_81 : decode cX7_of 81 = .ok (.aload_n 0, 1) := by decide +kernel
theorem dX7_of_82 : decode cX7_of 82 = .ok (.getfield 47, 3) := by decide +kernel
theorem dX7_of_85 : decode cX7_of 85 = .ok (.iload_n 1, 1) := by decide +kernel
theorem dX7_of_86 : decode cX7_of 86 = .ok (.iaload, 1) := by decide +kernel
theorem dX7_of_87 : decode cX7_of 87 = .ok (.ireturn, 1) := by decide +kernel
theorem dX7_of_88 : decode cX7_of 88 = .ok (.aload_n 0, 1) := by decide +kernel
theorem dX7_of_89 : decode cX7_of 89 = .ok (.getfield 50, 3) := by decide +kernel
theorem dX7_of_92 : decode cX7_of 92 = .ok (.iload_n 1, 1) := by decide +kernel
theorem dX7_of_93 : decode cX7_of 93 = .ok (.iaload, 1) := by decide +kernel
theorem dX7_of_94 : decode cX7_of 94 = .ok (.ireturn, 1) := by decide +kernel
theorem dX7_of_95 : decode cX7_of 95 = .ok (.aload_n 0, 1) := by decide +kernel
theorem dX7_of_96 : decode cX7_of 96 = .ok (.getfield 53, 3) := by decide +kernel
theorem dX7_of_99 : decode cX7_of 99 = .ok (.iload_n 1, 1) := by decide +kernel
theorem dX7_of_100 : decode cX7_of 100 = .ok (.iaload, 1) := by decide +kernel
theorem dX7_of_101 : decode cX7_of 101 = .ok (.ireturn, 1) := by decide +kernel
theorem dX7_of_102 : decode cX7_of 102 = .ok (.aload_n 0, 1) := by decide +kernel
theorem dX7_of_103 : decode cX7_of 103 = .ok (.getfield 56, 3) := by decide +kernel
theorem dX7_of_106 : decode cX7_of 106 = .ok (.iload_n 1, 1) := by decide +kernel
theorem dX7_of_107 : decode cX7_of 107 = .ok (.iaload, 1) := by decide +kernel
theorem dX7_of_108 : decode cX7_of 108 = .ok (.ireturn, 1) := by decide +kernel
theorem dX7_of_109 : decode cX7_of 109 = .ok (.aload_n 0, 1) := by decide +kernel
theorem dX7_of_110 : decode cX7_of 110 = .ok (.getfield 59, 3) := by decide +kernel
theorem dX7_of_113 : decode cX7_of 113 = .ok (.iload_n 1, 1) := by decide +kernel
theorem dX7_of_114 : decode cX7_of 114 = .ok (.iaload, 1) := by decide +kernel
theorem dX7_of_115 : decode cX7_of 115 = .ok (.ireturn, 1) := by decide +kernel
theorem dX7_number_0 : decode cX7_number 0 = .ok (.aload_n 0, 1) := by decide +kernel
theorem dX7_number_1 : decode cX7_number 1 = .ok (.aload_n 0, 1) := by decide +kernel
theorem dX7_number_2 : decode cX7_number 2 = .ok (.getfield 9, 3) := by decide +kernel
theorem dX7_number_5 : decode cX7_number 5 = .ok (.invokevirtual 99, 3) := by decide +kernel
theorem dX7_number_8 : decode cX7_number 8 = .ok (.iload_n 1, 1) := by decide +kernel
theorem dX7_number_9 : decode cX7_number 9 = .ok (.i2l, 1) := by decide +kernel
theorem dX7_number_10 : decode cX7_number 10 = .ok (.lconst 0, 1) := by decide +kernel
theorem dX7_number_11 : decode cX7_number 11 = .ok (.aload_n 0, 1) := by decide +kernel
theorem dX7_number_12 : decode cX7_number 12 = .ok (.getfield 92, 3) := by decide +kernel
theorem dX7_number_15 : decode cX7_number 15 = .ok (.iconst 1, 1) := by decide +kernel
theorem dX7_number_16 : decode cX7_number 16 = .ok (.isub, 1) := by decide +kernel
theorem dX7_number_17 : decode cX7_number 17 = .ok (.i2l, 1) := by decide +kernel
theorem dX7_number_18 : decode cX7_number 18 = .ok (.invokestatic 85, 3) := by decide +kernel
theorem dX7_number_21 : decode cX7_number 21 = .ok (.ifCond .ne 5, 3) := by decide +kernel
theorem dX7_number_24 : decode cX7_number 24 = .ok (.iconst (-1), 1) := by decide +kernel
theorem dX7_number_25 : decode cX7_number 25 = .ok (.ireturn, 1) := by decide +kernel
theorem dX7_number_26 : decode cX7_number 26 = .ok (.aload_n 0, 1) := by decide +kernel
theorem dX7_number_27 : decode cX7_number 27 = .ok (.invokevirtual 129, 3) := by decide +kernel
theorem dX7_number_30 : decode cX7_number 30 = .ok (.istore_n 2, 1) := by decide +kernel
theorem dX7_number_31 : decode cX7_number 31 = .ok (.aload_n 0, 1) := by decide +kernel
theorem dX7_number_32 : decode cX7_number 32 = .ok (.aload_n 0, 1) := by decide +kernel
theorem dX7_number_33 : decode cX7_number 33 = .ok (.getfield 9, 3) := by decide +kernel
theorem dX7_number_36 : decode cX7_number 36 = .ok (.aload_n 0, 1) := by decide +kernel
theorem dX7_number_37 : decode cX7_number 37 = .ok (.getfield 44, 3) := by decide +kernel
theorem dX7_number_40 : decode cX7_number 40 = .ok (.iload_n 1, 1) := by decide +kernel
theorem dX7_number_41 : decode cX7_number 41 = .ok (.iaload, 1) := by decide +kernel
theorem dX7_number_42 : decode cX7_number 42 = .ok (.invokevirtual 126, 3) := by decide +kernel
theorem dX7_number_45 : decode cX7_number 45 = .ok (.iload_n 2, 1) := by decide +kernel
theorem dX7_number_46 : decode cX7_number 46 = .ok (.ireturn, 1) := by decide +kernel
theorem dX7_which_0 : decode cX7_which 0 = .ok (.aload_n 0, 1) := by decide +kernel
theorem dX7_which_1 : decode cX7_which 1 = .ok (.aload_n 0, 1) := by decide +kernel
theorem dX7_which_2 : decode cX7_which 2 = .ok (.getfield 118, 3) := by decide +kernel
theorem dX7_which_5 : decode cX7_which 5 = .ok (.aload_n 0, 1) := by decide +kernel
theorem dX7_which_6 : decode cX7_which 6 = .ok (.getfield 9, 3) := by decide +kernel
theorem dX7_which_9 : decode cX7_which 9 = .ok (.invokevirtual 139, 3) := by decide +kernel
theorem dX7_which_12 : decode cX7_which 12 = .ok (.ireturn, 1) := by decide +kernel
theorem dX7_many_0 : decode cX7_many 0 = .ok (.iload_n 1, 1) := by decide +kernel
theorem dX7_many_1 : decode cX7_many 1 = .ok (.i2l, 1) := by decide +kernel
theorem dX7_many_2 : decode cX7_many 2 = .ok (.lconst 1, 1) := by decide +kernel
theorem dX7_many_3 : decode cX7_many 3 = .ok (.ldc2_w 124, 3) := by decide +kernel
theorem dX7_many_6 : decode cX7_many 6 = .ok (.invokestatic 85, 3) := by decide +kernel
theorem dX7_many_9 : decode cX7_many 9 = .ok (.ifCond .ne 6, 3) := by decide +kernel
theorem dX7_many_12 : decode cX7_many 12 = .ok (.bipush (-2), 2) := by decide +kernel
theorem dX7_many_14 : decode cX7_many 14 = .ok (.ireturn, 1) := by decide +kernel
theorem dX7_many_15 : decode cX7_many 15 = .ok (.aload_n 0, 1) := by decide +kernel
theorem dX7_many_16 : decode cX7_many 16 = .ok (.iload_n 1, 1) := by decide +kernel
theorem dX7_many_17 : decode cX7_many 17 = .ok (.invokevirtual 99, 3) := by decide +kernel
theorem dX7_many_20 : decode cX7_many 20 = .ok (.aload_n 0, 1) := by decide +kernel
theorem dX7_many_21 : decode cX7_many 21 = .ok (.getfield 92, 3) := by decide +kernel
theorem dX7_many_24 : decode cX7_many 24 = .ok (.ireturn, 1) := by decide +kernel
theorem dX7_digits_0 : decode cX7_digits 0 = .ok (.aload_n 0, 1) := by decide +kernel
theorem dX7_digits_1 : decode cX7_digits 1 = .ok (.getfield 118, 3) := by decide +kernel
theorem dX7_digits_4 : decode cX7_digits 4 = .ok (.ireturn, 1) := by decide +kernel
theorem dX7_turn_0 : decode cX7_turn 0 = .ok (.aload_n 0, 1) := by decide +kernel
theorem dX7_turn_1 : decode cX7_turn 1 = .ok (.iload_n 1, 1) := by decide +kernel
theorem dX7_turn_2 : decode cX7_turn 2 = .ok (.invokevirtual 133, 3) := by decide +kernel
theorem dX7_turn_5 : decode cX7_turn 5 = .ok (.ifCond .ne 5, 3) := by decide +kernel
theorem dX7_turn_8 : decode cX7_turn 8 = .ok (.iconst (-1), 1) := by decide +kernel
theorem dX7_turn_9 : decode cX7_turn 9 = .ok (.ireturn, 1) := by decide +kernel
theorem dX7_turn_10 : decode cX7_turn 10 = .ok (.aload_n 0, 1) := by decide +kernel
theorem dX7_turn_11 : decode cX7_turn 11 = .ok (.aload_n 0, 1) := by decide +kernel
theorem dX7_turn_12 : decode cX7_turn 12 = .ok (.getfield 118, 3) := by decide +kernel
theorem dX7_turn_15 : decode cX7_turn 15 = .ok (.aload_n 0, 1) := by decide +kernel
theorem dX7_turn_16 : decode cX7_turn 16 = .ok (.getfield 9, 3) := by decide +kernel
theorem dX7_turn_19 : decode cX7_turn 19 = .ok (.iload_n 1, 1) := by decide +kernel
theorem dX7_turn_20 : decode cX7_turn 20 = .ok (.invokevirtual 143, 3) := by decide +kernel
theorem dX7_turn_23 : decode cX7_turn 23 = .ok (.istore_n 2, 1) := by decide +kernel
theorem dX7_turn_24 : decode cX7_turn 24 = .ok (.iload_n 2, 1) := by decide +kernel
theorem dX7_turn_25 : decode cX7_turn 25 = .ok (.bipush (-5), 2) := by decide +kernel
theorem dX7_turn_27 : decode cX7_turn 27 = .ok (.if_icmp .ne 6, 3) := by decide +kernel
theorem dX7_turn_30 : decode cX7_turn 30 = .ok (.bipush (-5), 2) := by decide +kernel
theorem dX7_turn_32 : decode cX7_turn 32 = .ok (.ireturn, 1) := by decide +kernel
theorem dX7_turn_33 : decode cX7_turn 33 = .ok (.aload_n 0, 1) := by decide +kernel
theorem dX7_turn_34 : decode cX7_turn 34 = .ok (.aload_n 0, 1) := by decide +kernel
theorem dX7_turn_35 : decode cX7_turn 35 = .ok (.getfield 9, 3) := by decide +kernel
theorem dX7_turn_38 : decode cX7_turn 38 = .ok (.iload_n 2, 1) := by decide +kernel
theorem dX7_turn_39 : decode cX7_turn 39 = .ok (.invokevirtual 126, 3) := by decide +kernel
theorem dX7_turn_42 : decode cX7_turn 42 = .ok (.aload_n 0, 1) := by decide +kernel
theorem dX7_turn_43 : decode cX7_turn 43 = .ok (.invokevirtual 129, 3) := by decide +kernel
theorem dX7_turn_46 : decode cX7_turn 46 = .ok (.ireturn, 1) := by decide +kernel
theorem dX7_back_0 : decode cX7_back 0 = .ok (.aload_n 0, 1) := by decide +kernel
theorem dX7_back_1 : decode cX7_back 1 = .ok (.iload_n 1, 1) := by decide +kernel
theorem dX7_back_2 : decode cX7_back 2 = .ok (.invokevirtual 133, 3) := by decide +kernel
theorem dX7_back_5 : decode cX7_back 5 = .ok (.ifCond .ne 5, 3) := by decide +kernel
theorem dX7_back_8 : decode cX7_back 8 = .ok (.iconst (-1), 1) := by decide +kernel
theorem dX7_back_9 : decode cX7_back 9 = .ok (.ireturn, 1) := by decide +kernel
theorem dX7_back_10 : decode cX7_back 10 = .ok (.aload_n 0, 1) := by decide +kernel
theorem dX7_back_11 : decode cX7_back 11 = .ok (.aload_n 0, 1) := by decide +kernel
theorem dX7_back_12 : decode cX7_back 12 = .ok (.getfield 118, 3) := by decide +kernel
theorem dX7_back_15 : decode cX7_back 15 = .ok (.aload_n 0, 1) := by decide +kernel
theorem dX7_back_16 : decode cX7_back 16 = .ok (.getfield 9, 3) := by decide +kernel
theorem dX7_back_19 : decode cX7_back 19 = .ok (.iload_n 1, 1) := by decide +kernel
theorem dX7_back_20 : decode cX7_back 20 = .ok (.invokevirtual 146, 3) := by decide +kernel
theorem dX7_back_23 : decode cX7_back 23 = .ok (.istore_n 2, 1) := by decide +kernel
theorem dX7_back_24 : decode cX7_back 24 = .ok (.iload_n 2, 1) := by decide +kernel
theorem dX7_back_25 : decode cX7_back 25 = .ok (.bipush (-5), 2) := by decide +kernel
theorem dX7_back_27 : decode cX7_back 27 = .ok (.if_icmp .ne 6, 3) := by decide +kernel
theorem dX7_back_30 : decode cX7_back 30 = .ok (.bipush (-5), 2) := by decide +kernel
theorem dX7_back_32 : decode cX7_back 32 = .ok (.ireturn, 1) := by decide +kernel
theorem dX7_back_33 : decode cX7_back 33 = .ok (.aload_n 0, 1) := by decide +kernel
theorem dX7_back_34 : decode cX7_back 34 = .ok (.aload_n 0, 1) := by decide +kernel
theorem dX7_back_35 : decode cX7_back 35 = .ok (.getfield 9, 3) := by decide +kernel
theorem dX7_back_38 : decode cX7_back 38 = .ok (.iload_n 2, 1) := by decide +kernel
theorem dX7_back_39 : decode cX7_back 39 = .ok (.invokevirtual 126, 3) := by decide +kernel
theorem dX7_back_42 : decode cX7_back 42 = .ok (.aload_n 0, 1) := by decide +kernel
theorem dX7_back_43 : decode cX7_back 43 = .ok (.invokevirtual 129, 3) := by decide +kernel
theorem dX7_back_46 : decode cX7_back 46 = .ok (.ireturn, 1) := by decide +kernel
theorem dX7_mayTurn_0 : decode cX7_mayTurn 0 = .ok (.iload_n 1, 1) := by decide +kernel
theorem dX7_mayTurn_1 : decode cX7_mayTurn 1 = .ok (.i2l, 1) := by decide +kernel
theorem dX7_mayTurn_2 : decode cX7_mayTurn 2 = .ok (.lconst 0, 1) := by decide +kernel
theorem dX7_mayTurn_3 : decode cX7_mayTurn 3 = .ok (.ldc2_w 149, 3) := by decide +kernel
theorem dX7_mayTurn_6 : decode cX7_mayTurn 6 = .ok (.invokestatic 85, 3) := by decide +kernel
theorem dX7_mayTurn_9 : decode cX7_mayTurn 9 = .ok (.ifCond .ne 5, 3) := by decide +kernel
theorem dX7_mayTurn_12 : decode cX7_mayTurn 12 = .ok (.iconst (-1), 1) := by decide +kernel
theorem dX7_mayTurn_13 : decode cX7_mayTurn 13 = .ok (.ireturn, 1) := by decide +kernel
theorem dX7_mayTurn_14 : decode cX7_mayTurn 14 = .ok (.iconst 0, 1) := by decide +kernel
theorem dX7_mayTurn_15 : decode cX7_mayTurn 15 = .ok (.istore_n 2, 1) := by decide +kernel
theorem dX7_mayTurn_16 : decode cX7_mayTurn 16 = .ok (.iconst 0, 1) := by decide +kernel
theorem dX7_mayTurn_17 : decode cX7_mayTurn 17 = .ok (.istore_n 3, 1) := by decide +kernel
theorem dX7_mayTurn_18 : decode cX7_mayTurn 18 = .ok (.iload_n 3, 1) := by decide +kernel
theorem dX7_mayTurn_19 : decode cX7_mayTurn 19 = .ok (.aload_n 0, 1) := by decide +kernel
theorem dX7_mayTurn_20 : decode cX7_mayTurn 20 = .ok (.getfield 9, 3) := by decide +kernel
theorem dX7_mayTurn_23 : decode cX7_mayTurn 23 = .ok (.if_icmp .ge 55, 3) := by decide +kernel
theorem dX7_mayTurn_26 : decode cX7_mayTurn 26 = .ok (.iload_n 1, 1) := by decide +kernel
theorem dX7_mayTurn_27 : decode cX7_mayTurn 27 = .ok (.iconst 2, 1) := by decide +kernel
theorem dX7_mayTurn_28 : decode cX7_mayTurn 28 = .ok (.irem, 1) := by decide +kernel
theorem dX7_mayTurn_29 : decode cX7_mayTurn 29 = .ok (.ifCond .ne 19, 3) := by decide +kernel
theorem dX7_mayTurn_32 : decode cX7_mayTurn 32 = .ok (.aload_n 0, 1) := by decide +kernel
theorem dX7_mayTurn_33 : decode cX7_mayTurn 33 = .ok (.aload_n 0, 1) := by decide +kernel
theorem dX7_mayTurn_34 : decode cX7_mayTurn 34 = .ok (.getfield 118, 3) := by decide +kernel
theorem dX7_mayTurn_37 : decode cX7_mayTurn 37 = .ok (.aload_n 0, 1) := by decide +kernel
theorem dX7_mayTurn_38 : decode cX7_mayTurn 38 = .ok (.getfield 9, 3) := by decide +kernel
theorem dX7_mayTurn_41 : decode cX7_mayTurn 41 = .ok (.iload_n 3, 1) := by decide +kernel
theorem dX7_mayTurn_42 : decode cX7_mayTurn 42 = .ok (.invokevirtual 143, 3) := by decide +kernel
theorem dX7_mayTurn_45 : decode cX7_mayTurn 45 = .ok (.goto 16, 3) := by decide +kernel
theorem dX7_mayTurn_48 : decode cX7_mayTurn 48 = .ok (.aload_n 0, 1) := by decide +kernel
theorem dX7_mayTurn_49 : decode cX7_mayTurn 49 = .ok (.aload_n 0, 1) := by decide +kernel
theorem dX7_mayTurn_50 : decode cX7_mayTurn 50 = .ok (.getfield 118, 3) := by decide +kernel
theorem dX7_mayTurn_53 : decode cX7_mayTurn 53 = .ok (.aload_n 0, 1) := by decide +kernel
theorem dX7_mayTurn_54 : decode cX7_mayTurn 54 = .ok (.getfield 9, 3) := by decide +kernel
theorem dX7_mayTurn_57 : decode cX7_mayTurn 57 = .ok (.iload_n 3, 1) := by decide +kernel
theorem dX7_mayTurn_58 : decode cX7_mayTurn 58 = .ok (.invokevirtual 146, 3) := by decide +kernel
theorem dX7_mayTurn_61 : decode cX7_mayTurn 61 = .ok (.bipush (-5), 2) := by decide +kernel
theorem dX7_mayTurn_63 : decode cX7_mayTurn 63 = .ok (.if_icmp .eq 9, 3) := by decide +kernel
theorem dX7_mayTurn_66 : decode cX7_mayTurn 66 = .ok (.iload_n 2, 1) := by decide +kernel
theorem dX7_mayTurn_67 : decode cX7_mayTurn 67 = .ok (.iconst 1, 1) := by decide +kernel
theorem dX7_mayTurn_68 : decode cX7_mayTurn 68 = .ok (.iload_n 3, 1) := by decide +kernel
theorem dX7_mayTurn_69 : decode cX7_mayTurn 69 = .ok (.ishl, 1) := by decide +kernel
theorem dX7_mayTurn_70 : decode cX7_mayTurn 70 = .ok (.ior, 1) := by decide +kernel
theorem dX7_mayTurn_71 : decode cX7_mayTurn 71 = .ok (.istore_n 2, 1) := by decide +kernel
theorem dX7_mayTurn_72 : decode cX7_mayTurn 72 = .ok (.iinc 3 1, 3) := by decide +kernel
theorem dX7_mayTurn_75 : decode cX7_mayTurn 75 = .ok (.goto (-57), 3) := by decide +kernel
theorem dX7_mayTurn_78 : decode cX7_mayTurn 78 = .ok (.iload_n 1, 1) := by decide +kernel
theorem dX7_mayTurn_79 : decode cX7_mayTurn 79 = .ok (.iconst 2, 1) := by decide +kernel
theorem dX7_mayTurn_80 : decode cX7_mayTurn 80 = .ok (.if_icmp .ge 10, 3) := by decide +kernel
theorem dX7_mayTurn_83 : decode cX7_mayTurn 83 = .ok (.iload_n 2, 1) := by decide +kernel
theorem dX7_mayTurn_84 : decode cX7_mayTurn 84 = .ok (.invokestatic 151, 3) := by decide +kernel
theorem dX7_mayTurn_87 : decode cX7_mayTurn 87 = .ok (.goto 4, 3) := by decide +kernel
theorem dX7_mayTurn_90 : decode cX7_mayTurn 90 = .ok (.iload_n 2, 1) := by decide +kernel
theorem dX7_mayTurn_91 : decode cX7_mayTurn 91 = .ok (.ireturn, 1) := by decide +kernel
theorem dX7_mirror_0 : decode cX7_mirror 0 = .ok (.aload_n 0, 1) := by decide +kernel
theorem dX7_mirror_1 : decode cX7_mirror 1 = .ok (.aload_n 0, 1) := by decide +kernel
theorem dX7_mirror_2 : decode cX7_mirror 2 = .ok (.getfield 9, 3) := by decide +kernel
theorem dX7_mirror_5 : decode cX7_mirror 5 = .ok (.aload_n 0, 1) := by decide +kernel
theorem dX7_mirror_6 : decode cX7_mirror 6 = .ok (.aload_n 0, 1) := by decide +kernel
theorem dX7_mirror_7 : decode cX7_mirror 7 = .ok (.getfield 118, 3) := by decide +kernel
theorem dX7_mirror_10 : decode cX7_mirror 10 = .ok (.aload_n 0, 1) := by decide +kernel
theorem dX7_mirror_11 : decode cX7_mirror 11 = .ok (.getfield 9, 3) := by decide +kernel
theorem dX7_mirror_14 : decode cX7_mirror 14 = .ok (.invokevirtual 156, 3) := by decide +kernel
theorem dX7_mirror_17 : decode cX7_mirror 17 = .ok (.invokevirtual 126, 3) := by decide +kernel
theorem dX7_mirror_20 : decode cX7_mirror 20 = .ok (.aload_n 0, 1) := by decide +kernel
theorem dX7_mirror_21 : decode cX7_mirror 21 = .ok (.invokevirtual 129, 3) := by decide +kernel
theorem dX7_mirror_24 : decode cX7_mirror 24 = .ok (.ireturn, 1) := by decide +kernel
theorem dX7_off_0 : decode cX7_off 0 = .ok (.aload_n 0, 1) := by decide +kernel
theorem dX7_off_1 : decode cX7_off 1 = .ok (.getfield 121, 3) := by decide +kernel
theorem dX7_off_4 : decode cX7_off 4 = .ok (.ifCond .ne 6, 3) := by decide +kernel
theorem dX7_off_7 : decode cX7_off 7 = .ok (.bipush (-3), 2) := by decide +kernel
theorem dX7_off_9 : decode cX7_off 9 = .ok (.ireturn, 1) := by decide +kernel
theorem dX7_off_10 : decode cX7_off 10 = .ok (.aload_n 0, 1) := by decide +kernel
theorem dX7_off_11 : decode cX7_off 11 = .ok (.dup, 1) := by decide +kernel
theorem dX7_off_12 : decode cX7_off 12 = .ok (.getfield 121, 3) := by decide +kernel
theorem dX7_off_15 : decode cX7_off 15 = .ok (.iconst 1, 1) := by decide +kernel
theorem dX7_off_16 : decode cX7_off 16 = .ok (.isub, 1) := by decide +kernel
theorem dX7_off_17 : decode cX7_off 17 = .ok (.putfield 121, 3) := by decide +kernel
theorem dX7_off_20 : decode cX7_off 20 = .ok (.aload_n 0, 1) := by decide +kernel
theorem dX7_off_21 : decode cX7_off 21 = .ok (.aload_n 0, 1) := by decide +kernel
theorem dX7_off_22 : decode cX7_off 22 = .ok (.getfield 22, 3) := by decide +kernel
theorem dX7_off_25 : decode cX7_off 25 = .ok (.aload_n 0, 1) := by decide +kernel
theorem dX7_off_26 : decode cX7_off 26 = .ok (.getfield 121, 3) := by decide +kernel
theorem dX7_off_29 : decode cX7_off 29 = .ok (.iaload, 1) := by decide +kernel
theorem dX7_off_30 : decode cX7_off 30 = .ok (.putfield 9, 3) := by decide +kernel
theorem dX7_off_33 : decode cX7_off 33 = .ok (.aload_n 0, 1) := by decide +kernel
theorem dX7_off_34 : decode cX7_off 34 = .ok (.aload_n 0, 1) := by decide +kernel
theorem dX7_off_35 : decode cX7_off 35 = .ok (.getfield 25, 3) := by decide +kernel
theorem dX7_off_38 : decode cX7_off 38 = .ok (.aload_n 0, 1) := by decide +kernel
theorem dX7_off_39 : decode cX7_off 39 = .ok (.getfield 121, 3) := by decide +kernel
theorem dX7_off_42 : decode cX7_off 42 = .ok (.iaload, 1) := by decide +kernel
theorem dX7_off_43 : decode cX7_off 43 = .ok (.putfield 118, 3) := by decide +kernel
theorem dX7_off_46 : decode cX7_off 46 = .ok (.aload_n 0, 1) := by decide +kernel
theorem dX7_off_47 : decode cX7_off 47 = .ok (.getfield 121, 3) := by decide +kernel
theorem dX7_off_50 : decode cX7_off 50 = .ok (.ireturn, 1) := by decide +kernel
theorem dX7_isShelf_0 : decode cX7_isShelf 0 = .ok (.iload_n 0, 1) := by decide +kernel
theorem dX7_isShelf_1 : decode cX7_isShelf 1 = .ok (.i2l, 1) := by decide +kernel
theorem dX7_isShelf_2 : decode cX7_isShelf 2 = .ok (.lconst 0, 1) := by decide +kernel
theorem dX7_isShelf_3 : decode cX7_isShelf 3 = .ok (.ldc2_w 149, 3) := by decide +kernel
theorem dX7_isShelf_6 : decode cX7_isShelf 6 = .ok (.invokestatic 85, 3) := by decide +kernel
theorem dX7_isShelf_9 : decode cX7_isShelf 9 = .ok (.ireturn, 1) := by decide +kernel
theorem dX7_barOf_0 : decode cX7_barOf 0 = .ok (.aload_n 0, 1) := by decide +kernel
theorem dX7_barOf_1 : decode cX7_barOf 1 = .ok (.getfield 15, 3) := by decide +kernel
theorem dX7_barOf_4 : decode cX7_barOf 4 = .ok (.iload_n 1, 1) := by decide +kernel
theorem dX7_barOf_5 : decode cX7_barOf 5 = .ok (.iaload, 1) := by decide +kernel
theorem dX7_barOf_6 : decode cX7_barOf 6 = .ok (.ifCond .ne 6, 3) := by decide +kernel
theorem dX7_barOf_9 : decode cX7_barOf 9 = .ok (.bipush (-6), 2) := by decide +kernel
theorem dX7_barOf_11 : decode cX7_barOf 11 = .ok (.ireturn, 1) := by decide +kernel
theorem dX7_barOf_12 : decode cX7_barOf 12 = .ok (.aload_n 0, 1) := by decide +kernel
theorem dX7_barOf_13 : decode cX7_barOf 13 = .ok (.getfield 15, 3) := by decide +kernel
theorem dX7_barOf_16 : decode cX7_barOf 16 = .ok (.iload_n 1, 1) := by decide +kernel
theorem dX7_barOf_17 : decode cX7_barOf 17 = .ok (.iaload, 1) := by decide +kernel
theorem dX7_barOf_18 : decode cX7_barOf 18 = .ok (.aload_n 0, 1) := by decide +kernel
theorem dX7_barOf_19 : decode cX7_barOf 19 = .ok (.getfield 9, 3) := by decide +kernel
theorem dX7_barOf_22 : decode cX7_barOf 22 = .ok (.if_icmp .ne 7, 3) := by decide +kernel
theorem dX7_barOf_25 : decode cX7_barOf 25 = .ok (.iconst 0, 1) := by decide +kernel
theorem dX7_barOf_26 : decode cX7_barOf 26 = .ok (.goto 5, 3) := by decide +kernel
theorem dX7_barOf_29 : decode cX7_barOf 29 = .ok (.bipush (-7), 2) := by decide +kernel
theorem dX7_barOf_31 : decode cX7_barOf 31 = .ok (.ireturn, 1) := by decide +kernel
theorem dX7_below_0 : decode cX7_below 0 = .ok (.iload_n 1, 1) := by decide +kernel
theorem dX7_below_1 : decode cX7_below 1 = .ok (.invokestatic 159, 3) := by decide +kernel
theorem dX7_below_4 : decode cX7_below 4 = .ok (.ifCond .eq 13, 3) := by decide +kernel
theorem dX7_below_7 : decode cX7_below 7 = .ok (.iload_n 2, 1) := by decide +kernel
theorem dX7_below_8 : decode cX7_below 8 = .ok (.i2l, 1) := by decide +kernel
theorem dX7_below_9 : decode cX7_below 9 = .ok (.lconst 0, 1) := by decide +kernel
theorem dX7_below_10 : decode cX7_below 10 = .ok (.lconst 1, 1) := by decide +kernel
theorem dX7_below_11 : decode cX7_below 11 = .ok (.invokestatic 85, 3) := by decide +kernel
theorem dX7_below_14 : decode cX7_below 14 = .ok (.ifCond .ne 5, 3) := by decide +kernel
theorem dX7_below_17 : decode cX7_below 17 = .ok (.iconst (-1), 1) := by decide +kernel
theorem dX7_below_18 : decode cX7_below 18 = .ok (.ireturn, 1) := by decide +kernel
theorem dX7_below_19 : decode cX7_below 19 = .ok (.aload_n 0, 1) := by decide +kernel
theorem dX7_below_20 : decode cX7_below 20 = .ok (.iload_n 1, 1) := by decide +kernel
theorem dX7_below_21 : decode cX7_below 21 = .ok (.invokevirtual 162, 3) := by decide +kernel
theorem dX7_below_24 : decode cX7_below 24 = .ok (.istore_n 3, 1) := by decide +kernel
theorem dX7_below_25 : decode cX7_below 25 = .ok (.iload_n 3, 1) := by decide +kernel
theorem dX7_below_26 : decode cX7_below 26 = .ok (.ifCond .eq 5, 3) := by decide +kernel
theorem dX7_below_29 : decode cX7_below 29 = .ok (.iload_n 3, 1) := by decide +kernel
theorem dX7_below_30 : decode cX7_below 30 = .ok (.ireturn, 1) := by decide +kernel
theorem dX7_below_31 : decode cX7_below 31 = .ok (.iload_n 2, 1) := by decide +kernel
theorem dX7_below_32 : decode cX7_below 32 = .ok (.ifCond .ne 23, 3) := by decide +kernel
theorem dX7_below_35 : decode cX7_below 35 = .ok (.aload_n 0, 1) := by decide +kernel
theorem dX7_below_36 : decode cX7_below 36 = .ok (.getfield 118, 3) := by decide +kernel
theorem dX7_below_39 : decode cX7_below 39 = .ok (.aload_n 0, 1) := by decide +kernel
theorem dX7_below_40 : decode cX7_below 40 = .ok (.getfield 19, 3) := by decide +kernel
theorem dX7_below_43 : decode cX7_below 43 = .ok (.iload_n 1, 1) := by decide +kernel
theorem dX7_below_44 : decode cX7_below 44 = .ok (.iaload, 1) := by decide +kernel
theorem dX7_below_45 : decode cX7_below 45 = .ok (.aload_n 0, 1) := by decide +kernel
theorem dX7_below_46 : decode cX7_below 46 = .ok (.getfield 9, 3) := by decide +kernel
theorem dX7_below_49 : decode cX7_below 49 = .ok (.invokestatic 165, 3) := by decide +kernel
theorem dX7_below_52 : decode cX7_below 52 = .ok (.goto 20, 3) := by decide +kernel
theorem dX7_below_55 : decode cX7_below 55 = .ok (.aload_n 0, 1) := by decide +kernel
theorem dX7_below_56 : decode cX7_below 56 = .ok (.getfield 19, 3) := by decide +kernel
theorem dX7_below_59 : decode cX7_below 59 = .ok (.iload_n 1, 1) := by decide +kernel
theorem dX7_below_60 : decode cX7_below 60 = .ok (.iaload, 1) := by decide +kernel
theorem dX7_below_61 : decode cX7_below 61 = .ok (.aload_n 0, 1) := by decide +kernel
theorem dX7_below_62 : decode cX7_below 62 = .ok (.getfield 118, 3) := by decide +kernel
theorem dX7_below_65 : decode cX7_below 65 = .ok (.aload_n 0, 1) := by decide +kernel
theorem dX7_below_66 : decode cX7_below 66 = .ok (.getfield 9, 3) := by decide +kernel
theorem dX7_below_69 : decode cX7_below 69 = .ok (.invokestatic 165, 3) := by decide +kernel
theorem dX7_below_72 : decode cX7_below 72 = .ok (.istore 4, 2) := by decide +kernel
theorem dX7_below_74 : decode cX7_below 74 = .ok (.iload 4, 2) := by decide +kernel
theorem dX7_below_76 : decode cX7_below 76 = .ok (.ifCond .eq 7, 3) := by decide +kernel
theorem dX7_below_79 : decode cX7_below 79 = .ok (.iconst 1, 1) := by decide +kernel
theorem dX7_below_80 : decode cX7_below 80 = .ok (.goto 4, 3) := by decide +kernel
theorem dX7_below_83 : decode cX7_below 83 = .ok (.iconst 0, 1) := by decide +kernel
theorem dX7_below_84 : decode cX7_below 84 = .ok (.ireturn, 1) := by decide +kernel
theorem dX7_bound_0 : decode cX7_bound 0 = .ok (.aload_n 0, 1) := by decide +kernel
theorem dX7_bound_1 : decode cX7_bound 1 = .ok (.aload_n 0, 1) := by decide +kernel
theorem dX7_bound_2 : decode cX7_bound 2 = .ok (.getfield 9, 3) := by decide +kernel
theorem dX7_bound_5 : decode cX7_bound 5 = .ok (.invokevirtual 99, 3) := by decide +kernel
theorem dX7_bound_8 : decode cX7_bound 8 = .ok (.iconst (-1), 1) := by decide +kernel
theorem dX7_bound_9 : decode cX7_bound 9 = .ok (.istore 4, 2) := by decide +kernel
theorem dX7_bound_11 : decode cX7_bound 11 = .ok (.iconst 0, 1) := by decide +kernel
theorem dX7_bound_12 : decode cX7_bound 12 = .ok (.istore 5, 2) := by decide +kernel
theorem dX7_bound_14 : decode cX7_bound 14 = .ok (.iload 5, 2) := by decide +kernel
theorem dX7_bound_16 : decode cX7_bound 16 = .ok (.aload_n 0, 1) := by decide +kernel
theorem dX7_bound_17 : decode cX7_bound 17 = .ok (.getfield 92, 3) := by decide +kernel
theorem dX7_bound_20 : decode cX7_bound 20 = .ok (.if_icmp .ge 139, 3) := by decide +kernel
theorem dX7_bound_23 : decode cX7_bound 23 = .ok (.aload_n 0, 1) := by decide +kernel
theorem dX7_bound_24 : decode cX7_bound 24 = .ok (.getfield 44, 3) := by decide +kernel
theorem dX7_bound_27 : decode cX7_bound 27 = .ok (.iload 5, 2) := by decide +kernel
theorem dX7_bound_29 : decode cX7_bound 29 = .ok (.iaload, 1) := by decide +kernel
theorem dX7_bound_30 : decode cX7_bound 30 = .ok (.istore 6, 2) := by decide +kernel
theorem dX7_bound_32 : decode cX7_bound 32 = .ok (.iload_n 3, 1) := by decide +kernel
theorem dX7_bound_33 : decode cX7_bound 33 = .ok (.ifCond .eq 37, 3) := by decide +kernel
theorem dX7_bound_36 : decode cX7_bound 36 = .ok (.iload 6, 2) := by decide +kernel
theorem dX7_bound_38 : decode cX7_bound 38 = .ok (.iload_n 1, 1) := by decide +kernel
theorem dX7_bound_39 : decode cX7_bound 39 = .ok (.aload_n 0, 1) := by decide +kernel
theorem dX7_bound_40 : decode cX7_bound 40 = .ok (.getfield 9, 3) := by decide +kernel
theorem dX7_bound_43 : decode cX7_bound 43 = .ok (.invokestatic 165, 3) := by decide +kernel
theorem dX7_bound_46 : decode cX7_bound 46 = .ok (.ifCond .eq 20, 3) := by decide +kernel
theorem dX7_bound_49 : decode cX7_bound 49 = .ok (.iload 6, 2) := by decide +kernel
theorem dX7_bound_51 : decode cX7_bound 51 = .ok (.iload_n 2, 1) := by decide +kernel
theorem dX7_bound_52 : decode cX7_bound 52 = .ok (.aload_n 0, 1) := by decide +kernel
theorem dX7_bound_53 : decode cX7_bound 53 = .ok (.getfield 9, 3) := by decide +kernel
theorem dX7_bound_56 : decode cX7_bound 56 = .ok (.invokestatic 165, 3) := by decide +kernel
theorem dX7_bound_59 : decode cX7_bound 59 = .ok (.ifCond .eq 7, 3) := by decide +kernel
theorem dX7_bound_62 : decode cX7_bound 62 = .ok (.iconst 1, 1) := by decide +kernel
theorem dX7_bound_63 : decode cX7_bound 63 = .ok (.goto 38, 3) := by decide +kernel
theorem dX7_bound_66 : decode cX7_bound 66 = .ok (.iconst 0, 1) := by decide +kernel
theorem dX7_bound_67 : decode cX7_bound 67 = .ok (.goto 34, 3) := by decide +kernel
theorem dX7_bound_70 : decode cX7_bound 70 = .ok (.iload_n 1, 1) := by decide +kernel
theorem dX7_bound_71 : decode cX7_bound 71 = .ok (.iload 6, 2) := by decide +kernel
theorem dX7_bound_73 : decode cX7_bound 73 = .ok (.aload_n 0, 1) := by decide +kernel
theorem dX7_bound_74 : decode cX7_bound 74 = .ok (.getfield 9, 3) := by decide +kernel
theorem dX7_bound_77 : decode cX7_bound 77 = .ok (.invokestatic 165, 3) := by decide +kernel
theorem dX7_bound_80 : decode cX7_bound 80 = .ok (.ifCond .eq 20, 3) := by decide +kernel
theorem dX7_bound_83 : decode cX7_bound 83 = .ok (.iload_n 2, 1) := by decide +kernel
theorem dX7_bound_84 : decode cX7_bound 84 = .ok (.iload 6, 2) := by decide +kernel
theorem dX7_bound_86 : decode cX7_bound 86 = .ok (.aload_n 0, 1) := by decide +kernel
theorem dX7_bound_87 : decode cX7_bound 87 = .ok (.getfield 9, 3) := by decide +kernel
theorem dX7_bound_90 : decode cX7_bound 90 = .ok (.invokestatic 165, 3) := by decide +kernel
theorem dX7_bound_93 : decode cX7_bound 93 = .ok (.ifCond .eq 7, 3) := by decide +kernel
theorem dX7_bound_96 : decode cX7_bound 96 = .ok (.iconst 1, 1) := by decide +kernel
theorem dX7_bound_97 : decode cX7_bound 97 = .ok (.goto 4, 3) := by decide +kernel
theorem dX7_bound_100 : decode cX7_bound 100 = .ok (.iconst 0, 1) := by decide +kernel
theorem dX7_bound_101 : decode cX7_bound 101 = .ok (.istore 7, 2) := by decide +kernel
theorem dX7_bound_103 : decode cX7_bound 103 = .ok (.iload 7, 2) := by decide +kernel
theorem dX7_bound_105 : decode cX7_bound 105 = .ok (.ifCond .eq 48, 3) := by decide +kernel
theorem dX7_bound_108 : decode cX7_bound 108 = .ok (.iload 4, 2) := by decide +kernel
theorem dX7_bound_110 : decode cX7_bound 110 = .ok (.iconst (-1), 1) := by decide +kernel
theorem dX7_bound_111 : decode cX7_bound 111 = .ok (.if_icmp .eq 38, 3) := by decide +kernel
theorem dX7_bound_114 : decode cX7_bound 114 = .ok (.iload_n 3, 1) := by decide +kernel
theorem dX7_bound_115 : decode cX7_bound 115 = .ok (.ifCond .eq 20, 3) := by decide +kernel
theorem dX7_bound_118 : decode cX7_bound 118 = .ok (.iload 4, 2) := by decide +kernel
theorem dX7_bound_120 : decode cX7_bound 120 = .ok (.iload 6, 2) := by decide +kernel
theorem dX7_bound_122 : decode cX7_bound 122 = .ok (.aload_n 0, 1) := by decide +kernel
theorem dX7_bound_123 : decode cX7_bound 123 = .ok (.getfield 9, 3) := by decide +kernel
theorem dX7_bound_126 : decode cX7_bound 126 = .ok (.invokestatic 165, 3) := by decide +kernel
theorem dX7_bound_129 : decode cX7_bound 129 = .ok (.ifCond .eq 24, 3) := by decide +kernel
theorem dX7_bound_132 : decode cX7_bound 132 = .ok (.goto 17, 3) := by decide +kernel
theorem dX7_bound_135 : decode cX7_bound 135 = .ok (.iload 6, 2) := by decide +kernel
theorem dX7_bound_137 : decode cX7_bound 137 = .ok (.iload 4, 2) := by decide +kernel
theorem dX7_bound_139 : decode cX7_bound 139 = .ok (.aload_n 0, 1) := by decide +kernel
theorem dX7_bound_140 : decode cX7_bound 140 = .ok (.getfield 9, 3) := by decide +kernel
theorem dX7_bound_143 : decode cX7_bound 143 = .ok (.invokestatic 165, 3) := by decide +kernel
theorem dX7_bound_146 : decode cX7_bound 146 = .ok (.ifCond .eq 7, 3) := by decide +kernel
theorem dX7_bound_149 : decode cX7_bound 149 = .ok (.iload 6, 2) := by decide +kernel
theorem dX7_bound_151 : decode cX7_bound 151 = .ok (.istore 4, 2) := by decide +kernel
theorem dX7_bound_153 : decode cX7_bound 153 = .ok (.iinc 5 1, 3) := by decide +kernel
theorem dX7_bound_156 : decode cX7_bound 156 = .ok (.goto (-142), 3) := by decide +kernel
theorem dX7_bound_159 : decode cX7_bound 159 = .ok (.iload 4, 2) := by decide +kernel
theorem dX7_bound_161 : decode cX7_bound 161 = .ok (.ireturn, 1) := by decide +kernel
theorem dX7_meet_0 : decode cX7_meet 0 = .ok (.iload_n 1, 1) := by decide +kernel
theorem dX7_meet_1 : decode cX7_meet 1 = .ok (.invokestatic 159, 3) := by decide +kernel
theorem dX7_meet_4 : decode cX7_meet 4 = .ok (.ifCond .eq 13, 3) := by decide +kernel
theorem dX7_meet_7 : decode cX7_meet 7 = .ok (.iload_n 2, 1) := by decide +kernel
theorem dX7_meet_8 : decode cX7_meet 8 = .ok (.i2l, 1) := by decide +kernel
theorem dX7_meet_9 : decode cX7_meet 9 = .ok (.lconst 0, 1) := by decide +kernel
theorem dX7_meet_10 : decode cX7_meet 10 = .ok (.lconst 1, 1) := by decide +kernel
theorem dX7_meet_11 : decode cX7_meet 11 = .ok (.invokestatic 85, 3) := by decide +kernel
theorem dX7_meet_14 : decode cX7_meet 14 = .ok (.ifCond .ne 5, 3) := by decide +kernel
theorem dX7_meet_17 : decode cX7_meet 17 = .ok (.iconst (-1), 1) := by decide +kernel
theorem dX7_meet_18 : decode cX7_meet 18 = .ok (.ireturn, 1) := by decide +kernel
theorem dX7_meet_19 : decode cX7_meet 19 = .ok (.aload_n 0, 1) := by decide +kernel
theorem dX7_meet_20 : decode cX7_meet 20 = .ok (.iload_n 1, 1) := by decide +kernel
theorem dX7_meet_21 : decode cX7_meet 21 = .ok (.invokevirtual 162, 3) := by decide +kernel
theorem dX7_meet_24 : decode cX7_meet 24 = .ok (.istore_n 3, 1) := by decide +kernel
theorem dX7_meet_25 : decode cX7_meet 25 = .ok (.iload_n 3, 1) := by decide +kernel
theorem dX7_meet_26 : decode cX7_meet 26 = .ok (.ifCond .eq 5, 3) := by decide +kernel
theorem dX7_meet_29 : decode cX7_meet 29 = .ok (.iload_n 3, 1) := by decide +kernel
theorem dX7_meet_30 : decode cX7_meet 30 = .ok (.ireturn, 1) := by decide +kernel
theorem dX7_meet_31 : decode cX7_meet 31 = .ok (.aload_n 0, 1) := by decide +kernel
theorem dX7_meet_32 : decode cX7_meet 32 = .ok (.aload_n 0, 1) := by decide +kernel
theorem dX7_meet_33 : decode cX7_meet 33 = .ok (.aload_n 0, 1) := by decide +kernel
theorem dX7_meet_34 : decode cX7_meet 34 = .ok (.getfield 118, 3) := by decide +kernel
theorem dX7_meet_37 : decode cX7_meet 37 = .ok (.aload_n 0, 1) := by decide +kernel
theorem dX7_meet_38 : decode cX7_meet 38 = .ok (.getfield 19, 3) := by decide +kernel
theorem dX7_meet_41 : decode cX7_meet 41 = .ok (.iload_n 1, 1) := by decide +kernel
theorem dX7_meet_42 : decode cX7_meet 42 = .ok (.iaload, 1) := by decide +kernel
theorem dX7_meet_43 : decode cX7_meet 43 = .ok (.iload_n 2, 1) := by decide +kernel
theorem dX7_meet_44 : decode cX7_meet 44 = .ok (.ifCond .ne 7, 3) := by decide +kernel
theorem dX7_meet_47 : decode cX7_meet 47 = .ok (.iconst 1, 1) := by decide +kernel
theorem dX7_meet_48 : decode cX7_meet 48 = .ok (.goto 4, 3) := by decide +kernel
theorem dX7_meet_51 : decode cX7_meet 51 = .ok (.iconst 0, 1) := by decide +kernel
theorem dX7_meet_52 : decode cX7_meet 52 = .ok (.invokevirtual 169, 3) := by decide +kernel
theorem dX7_meet_55 : decode cX7_meet 55 = .ok (.aload_n 0, 1) := by decide +kernel
theorem dX7_meet_56 : decode cX7_meet 56 = .ok (.getfield 9, 3) := by decide +kernel
theorem dX7_meet_59 : decode cX7_meet 59 = .ok (.invokevirtual 139, 3) := by decide +kernel
theorem dX7_meet_62 : decode cX7_meet 62 = .ok (.ireturn, 1) := by decide +kernel
theorem dX7_meetAll_0 : decode cX7_meetAll 0 = .ok (.iload_n 1, 1) := by decide +kernel
theorem dX7_meetAll_1 : decode cX7_meetAll 1 = .ok (.i2l, 1) := by decide +kernel
theorem dX7_meetAll_2 : decode cX7_meetAll 2 = .ok (.lconst 0, 1) := by decide +kernel
theorem dX7_meetAll_3 : decode cX7_meetAll 3 = .ok (.lconst 1, 1) := by decide +kernel
theorem dX7_meetAll_4 : decode cX7_meetAll 4 = .ok (.invokestatic 85, 3) := by decide +kernel
theorem dX7_meetAll_7 : decode cX7_meetAll 7 = .ok (.ifCond .ne 5, 3) := by decide +kernel
theorem dX7_meetAll_10 : decode cX7_meetAll 10 = .ok (.iconst (-1), 1) := by decide +kernel
theorem dX7_meetAll_11 : decode cX7_meetAll 11 = .ok (.ireturn, 1) := by decide +kernel
theorem dX7_meetAll_12 : decode cX7_meetAll 12 = .ok (.aload_n 0, 1) := by decide +kernel
theorem dX7_meetAll_13 : decode cX7_meetAll 13 = .ok (.getfield 118, 3) := by decide +kernel
theorem dX7_meetAll_16 : decode cX7_meetAll 16 = .ok (.istore_n 2, 1) := by decide +kernel
theorem dX7_meetAll_17 : decode cX7_meetAll 17 = .ok (.iconst 0, 1) := by decide +kernel
theorem dX7_meetAll_18 : decode cX7_meetAll 18 = .ok (.istore_n 3, 1) := by decide +kernel
theorem dX7_meetAll_19 : decode cX7_meetAll 19 = .ok (.iload_n 3, 1) := by decide +kernel
theorem dX7_meetAll_20 : decode cX7_meetAll 20 = .ok (.iconst 4, 1) := by decide +kernel
theorem dX7_meetAll_21 : decode cX7_meetAll 21 = .ok (.if_icmp .ge 43, 3) := by decide +kernel
theorem dX7_meetAll_24 : decode cX7_meetAll 24 = .ok (.aload_n 0, 1) := by decide +kernel
theorem dX7_meetAll_25 : decode cX7_meetAll 25 = .ok (.getfield 15, 3) := by decide +kernel
theorem dX7_meetAll_28 : decode cX7_meetAll 28 = .ok (.iload_n 3, 1) := by decide +kernel
theorem dX7_meetAll_29 : decode cX7_meetAll 29 = .ok (.iaload, 1) := by decide +kernel
theorem dX7_meetAll_30 : decode cX7_meetAll 30 = .ok (.aload_n 0, 1) := by decide +kernel
theorem dX7_meetAll_31 : decode cX7_meetAll 31 = .ok (.getfield 9, 3) := by decide +kernel
theorem dX7_meetAll_34 : decode cX7_meetAll 34 = .ok (.if_icmp .ne 24, 3) := by decide +kernel
theorem dX7_meetAll_37 : decode cX7_meetAll 37 = .ok (.aload_n 0, 1) := by decide +kernel
theorem dX7_meetAll_38 : decode cX7_meetAll 38 = .ok (.iload_n 2, 1) := by decide +kernel
theorem dX7_meetAll_39 : decode cX7_meetAll 39 = .ok (.aload_n 0, 1) := by decide +kernel
theorem dX7_meetAll_40 : decode cX7_meetAll 40 = .ok (.getfield 19, 3) := by decide +kernel
theorem dX7_meetAll_43 : decode cX7_meetAll 43 = .ok (.iload_n 3, 1) := by decide +kernel
theorem dX7_meetAll_44 : decode cX7_meetAll 44 = .ok (.iaload, 1) := by decide +kernel
theorem dX7_meetAll_45 : decode cX7_meetAll 45 = .ok (.iload_n 1, 1) := by decide +kernel
theorem dX7_meetAll_46 : decode cX7_meetAll 46 = .ok (.ifCond .ne 7, 3) := by decide +kernel
theorem dX7_meetAll_49 : decode cX7_meetAll 49 = .ok (.iconst 1, 1) := by decide +kernel
theorem dX7_meetAll_50 : decode cX7_meetAll 50 = .ok (.goto 4, 3) := by decide +kernel
theorem dX7_meetAll_53 : decode cX7_meetAll 53 = .ok (.iconst 0, 1) := by decide +kernel
theorem dX7_meetAll_54 : decode cX7_meetAll 54 = .ok (.invokevirtual 169, 3) := by decide +kernel
theorem dX7_meetAll_57 : decode cX7_meetAll 57 = .ok (.istore_n 2, 1) := by decide +kernel
theorem dX7_meetAll_58 : decode cX7_meetAll 58 = .ok (.iinc 3 1, 3) := by decide +kernel
theorem dX7_meetAll_61 : decode cX7_meetAll 61 = .ok (.goto (-42), 3) := by decide +kernel
theorem dX7_meetAll_64 : decode cX7_meetAll 64 = .ok (.aload_n 0, 1) := by decide +kernel
theorem dX7_meetAll_65 : decode cX7_meetAll 65 = .ok (.iload_n 2, 1) := by decide +kernel
theorem dX7_meetAll_66 : decode cX7_meetAll 66 = .ok (.aload_n 0, 1) := by decide +kernel
theorem dX7_meetAll_67 : decode cX7_meetAll 67 = .ok (.getfield 9, 3) := by decide +kernel
theorem dX7_meetAll_70 : decode cX7_meetAll 70 = .ok (.invokevirtual 139, 3) := by decide +kernel
theorem dX7_meetAll_73 : decode cX7_meetAll 73 = .ok (.ireturn, 1) := by decide +kernel
theorem dX7_isBetween_0 : decode cX7_isBetween 0 = .ok (.iload_n 2, 1) := by decide +kernel
theorem dX7_isBetween_1 : decode cX7_isBetween 1 = .ok (.iload_n 1, 1) := by decide +kernel
theorem dX7_isBetween_2 : decode cX7_isBetween 2 = .ok (.aload_n 0, 1) := by decide +kernel
theorem dX7_isBetween_3 : decode cX7_isBetween 3 = .ok (.getfield 9, 3) := by decide +kernel
theorem dX7_isBetween_6 : decode cX7_isBetween 6 = .ok (.invokestatic 165, 3) := by decide +kernel
theorem dX7_isBetween_9 : decode cX7_isBetween 9 = .ok (.ifCond .eq 19, 3) := by decide +kernel
theorem dX7_isBetween_12 : decode cX7_isBetween 12 = .ok (.iload_n 1, 1) := by decide +kernel
theorem dX7_isBetween_13 : decode cX7_isBetween 13 = .ok (.iload_n 3, 1) := by decide +kernel
theorem dX7_isBetween_14 : decode cX7_isBetween 14 = .ok (.aload_n 0, 1) := by decide +kernel
theorem dX7_isBetween_15 : decode cX7_isBetween 15 = .ok (.getfield 9, 3) := by decide +kernel
theorem dX7_isBetween_18 : decode cX7_isBetween 18 = .ok (.invokestatic 165, 3) := by decide +kernel
theorem dX7_isBetween_21 : decode cX7_isBetween 21 = .ok (.ifCond .eq 7, 3) := by decide +kernel
theorem dX7_isBetween_24 : decode cX7_isBetween 24 = .ok (.iconst 1, 1) := by decide +kernel
theorem dX7_isBetween_25 : decode cX7_isBetween 25 = .ok (.goto 4, 3) := by decide +kernel
theorem dX7_isBetween_28 : decode cX7_isBetween 28 = .ok (.iconst 0, 1) := by decide +kernel
theorem dX7_isBetween_29 : decode cX7_isBetween 29 = .ok (.ireturn, 1) := by decide +kernel
theorem dX7_between_0 : decode cX7_between 0 = .ok (.iload_n 1, 1) := by decide +kernel
theorem dX7_between_1 : decode cX7_between 1 = .ok (.invokestatic 159, 3) := by decide +kernel
theorem dX7_between_4 : decode cX7_between 4 = .ok (.ifCond .eq 8, 3) := by decide +kernel
theorem dX7_between_7 : decode cX7_between 7 = .ok (.iload_n 2, 1) := by decide +kernel
theorem dX7_between_8 : decode cX7_between 8 = .ok (.iconst (-1), 1) := by decide +kernel
theorem dX7_between_9 : decode cX7_between 9 = .ok (.if_icmp .ge 5, 3) := by decide +kernel
theorem dX7_between_12 : decode cX7_between 12 = .ok (.iconst (-1), 1) := by decide +kernel
theorem dX7_between_13 : decode cX7_between 13 = .ok (.ireturn, 1) := by decide +kernel
theorem dX7_between_14 : decode cX7_between 14 = .ok (.aload_n 0, 1) := by decide +kernel
theorem dX7_between_15 : decode cX7_between 15 = .ok (.iload_n 1, 1) := by decide +kernel
theorem dX7_between_16 : decode cX7_between 16 = .ok (.invokevirtual 162, 3) := by decide +kernel
theorem dX7_between_19 : decode cX7_between 19 = .ok (.istore_n 3, 1) := by decide +kernel
theorem dX7_between_20 : decode cX7_between 20 = .ok (.iload_n 3, 1) := by decide +kernel
theorem dX7_between_21 : decode cX7_between 21 = .ok (.ifCond .eq 5, 3) := by decide +kernel
theorem dX7_between_24 : decode cX7_between 24 = .ok (.iload_n 3, 1) := by decide +kernel
theorem dX7_between_25 : decode cX7_between 25 = .ok (.ireturn, 1) := by decide +kernel
theorem dX7_between_26 : decode cX7_between 26 = .ok (.aload_n 0, 1) := by decide +kernel
theorem dX7_between_27 : decode cX7_between 27 = .ok (.aload_n 0, 1) := by decide +kernel
theorem dX7_between_28 : decode cX7_between 28 = .ok (.getfield 9, 3) := by decide +kernel
theorem dX7_between_31 : decode cX7_between 31 = .ok (.invokevirtual 99, 3) := by decide +kernel
theorem dX7_between_34 : decode cX7_between 34 = .ok (.iconst 0, 1) := by decide +kernel
theorem dX7_between_35 : decode cX7_between 35 = .ok (.istore 4, 2) := by decide +kernel
theorem dX7_between_37 : decode cX7_between 37 = .ok (.iconst 0, 1) := by decide +kernel
theorem dX7_between_38 : decode cX7_between 38 = .ok (.istore 5, 2) := by decide +kernel
theorem dX7_between_40 : decode cX7_between 40 = .ok (.iload 5, 2) := by decide +kernel
theorem dX7_between_42 : decode cX7_between 42 = .ok (.aload_n 0, 1) := by decide +kernel
theorem dX7_between_43 : decode cX7_between 43 = .ok (.getfield 92, 3) := by decide +kernel
theorem dX7_between_46 : decode cX7_between 46 = .ok (.if_icmp .ge 48, 3) := by decide +kernel
theorem dX7_between_49 : decode cX7_between 49 = .ok (.aload_n 0, 1) := by decide +kernel
theorem dX7_between_50 : decode cX7_between 50 = .ok (.aload_n 0, 1) := by decide +kernel
theorem dX7_between_51 : decode cX7_between 51 = .ok (.getfield 44, 3) := by decide +kernel
theorem dX7_between_54 : decode cX7_between 54 = .ok (.iload 5, 2) := by decide +kernel
theorem dX7_between_56 : decode cX7_between 56 = .ok (.iaload, 1) := by decide +kernel
theorem dX7_between_57 : decode cX7_between 57 = .ok (.aload_n 0, 1) := by decide +kernel
theorem dX7_between_58 : decode cX7_between 58 = .ok (.getfield 118, 3) := by decide +kernel
theorem dX7_between_61 : decode cX7_between 61 = .ok (.aload_n 0, 1) := by decide +kernel
theorem dX7_between_62 : decode cX7_between 62 = .ok (.getfield 19, 3) := by decide +kernel
theorem dX7_between_65 : decode cX7_between 65 = .ok (.iload_n 1, 1) := by decide +kernel
theorem dX7_between_66 : decode cX7_between 66 = .ok (.iaload, 1) := by decide +kernel
theorem dX7_between_67 : decode cX7_between 67 = .ok (.invokevirtual 173, 3) := by decide +kernel
theorem dX7_between_70 : decode cX7_between 70 = .ok (.ifCond .ne 6, 3) := by decide +kernel
theorem dX7_between_73 : decode cX7_between 73 = .ok (.goto 15, 3) := by decide +kernel
theorem dX7_between_76 : decode cX7_between 76 = .ok (.iload 4, 2) := by decide +kernel
theorem dX7_between_78 : decode cX7_between 78 = .ok (.iload_n 2, 1) := by decide +kernel
theorem dX7_between_79 : decode cX7_between 79 = .ok (.if_icmp .ne 6, 3) := by decide +kernel
theorem dX7_between_82 : decode cX7_between 82 = .ok (.iload 5, 2) := by decide +kernel
theorem dX7_between_84 : decode cX7_between 84 = .ok (.ireturn, 1) := by decide +kernel
theorem dX7_between_85 : decode cX7_between 85 = .ok (.iinc 4 1, 3) := by decide +kernel
theorem dX7_between_88 : decode cX7_between 88 = .ok (.iinc 5 1, 3) := by decide +kernel
theorem dX7_between_91 : decode cX7_between 91 = .ok (.goto (-51), 3) := by decide +kernel
theorem dX7_between_94 : decode cX7_between 94 = .ok (.iload_n 2, 1) := by decide +kernel
theorem dX7_between_95 : decode cX7_between 95 = .ok (.iconst (-1), 1) := by decide +kernel
theorem dX7_between_96 : decode cX7_between 96 = .ok (.if_icmp .ne 8, 3) := by decide +kernel
theorem dX7_between_99 : decode cX7_between 99 = .ok (.iload 4, 2) := by decide +kernel
theorem dX7_between_101 : decode cX7_between 101 = .ok (.goto 4, 3) := by decide +kernel
theorem dX7_between_104 : decode cX7_between 104 = .ok (.iconst (-1), 1) := by decide +kernel
theorem dX7_between_105 : decode cX7_between 105 = .ok (.ireturn, 1) := by decide +kernel
theorem dX7_measure_0 : decode cX7_measure 0 = .ok (.aload_n 0, 1) := by decide +kernel
theorem dX7_measure_1 : decode cX7_measure 1 = .ok (.aload_n 0, 1) := by decide +kernel
theorem dX7_measure_2 : decode cX7_measure 2 = .ok (.getfield 9, 3) := by decide +kernel
theorem dX7_measure_5 : decode cX7_measure 5 = .ok (.invokevirtual 99, 3) := by decide +kernel
theorem dX7_measure_8 : decode cX7_measure 8 = .ok (.iconst 0, 1) := by decide +kernel
theorem dX7_measure_9 : decode cX7_measure 9 = .ok (.istore_n 3, 1) := by decide +kernel
theorem dX7_measure_10 : decode cX7_measure 10 = .ok (.iload_n 3, 1) := by decide +kernel
theorem dX7_measure_11 : decode cX7_measure 11 = .ok (.aload_n 0, 1) := by decide +kernel
theorem dX7_measure_12 : decode cX7_measure 12 = .ok (.getfield 92, 3) := by decide +kernel
theorem dX7_measure_15 : decode cX7_measure 15 = .ok (.if_icmp .ge 16, 3) := by decide +kernel
theorem dX7_measure_18 : decode cX7_measure 18 = .ok (.aload_n 0, 1) := by decide +kernel
theorem dX7_measure_19 : decode cX7_measure 19 = .ok (.getfield 62, 3) := by decide +kernel
theorem dX7_measure_22 : decode cX7_measure 22 = .ok (.iload_n 3, 1) := by decide +kernel
theorem dX7_measure_23 : decode cX7_measure 23 = .ok (.iconst (-1), 1) := by decide +kernel
theorem dX7_measure_24 : decode cX7_measure 24 = .ok (.iastore, 1) := by decide +kernel
theorem dX7_measure_25 : decode cX7_measure 25 = .ok (.iinc 3 1, 3) := by decide +kernel
theorem dX7_measure_28 : decode cX7_measure 28 = .ok (.goto (-18), 3) := by decide +kernel
theorem dX7_measure_31 : decode cX7_measure 31 = .ok (.aload_n 0, 1) := by decide +kernel
theorem dX7_measure_32 : decode cX7_measure 32 = .ok (.iload_n 1, 1) := by decide +kernel
theorem dX7_measure_33 : decode cX7_measure 33 = .ok (.aload_n 0, 1) := by decide +kernel
theorem dX7_measure_34 : decode cX7_measure 34 = .ok (.getfield 9, 3) := by decide +kernel
theorem dX7_measure_37 : decode cX7_measure 37 = .ok (.invokevirtual 139, 3) := by decide +kernel
theorem dX7_measure_40 : decode cX7_measure 40 = .ok (.istore_n 3, 1) := by decide +kernel
theorem dX7_measure_41 : decode cX7_measure 41 = .ok (.aload_n 0, 1) := by decide +kernel
theorem dX7_measure_42 : decode cX7_measure 42 = .ok (.getfield 62, 3) := by decide +kernel
theorem dX7_measure_45 : decode cX7_measure 45 = .ok (.iload_n 3, 1) := by decide +kernel
theorem dX7_measure_46 : decode cX7_measure 46 = .ok (.iconst 0, 1) := by decide +kernel
theorem dX7_measure_47 : decode cX7_measure 47 = .ok (.iastore, 1) := by decide +kernel
theorem dX7_measure_48 : decode cX7_measure 48 = .ok (.aload_n 0, 1) := by decide +kernel
theorem dX7_measure_49 : decode cX7_measure 49 = .ok (.getfield 65, 3) := by decide +kernel
theorem dX7_measure_52 : decode cX7_measure 52 = .ok (.iconst 0, 1) := by decide +kernel
theorem dX7_measure_53 : decode cX7_measure 53 = .ok (.iload_n 3, 1) := by decide +kernel
theorem dX7_measure_54 : decode cX7_measure 54 = .ok (.iastore, 1) := by decide +kernel
theorem dX7_measure_55 : decode cX7_measure 55 = .ok (.iconst 1, 1) := by decide +kernel
theorem dX7_measure_56 : decode cX7_measure 56 = .ok (.istore 4, 2) := by decide +kernel
theorem dX7_measure_58 : decode cX7_measure 58 = .ok (.iconst 0, 1) := by decide +kernel
theorem dX7_measure_59 : decode cX7_measure 59 = .ok (.istore 5, 2) := by decide +kernel
theorem dX7_measure_61 : decode cX7_measure 61 = .ok (.iload 5, 2) := by decide +kernel
theorem dX7_measure_63 : decode cX7_measure 63 = .ok (.iload 4, 2) := by decide +kernel
theorem dX7_measure_65 : decode cX7_measure 65 = .ok (.if_icmp .ge 174, 3) := by decide +kernel
theorem dX7_measure_68 : decode cX7_measure 68 = .ok (.aload_n 0, 1) := by decide +kernel
theorem dX7_measure_69 : decode cX7_measure 69 = .ok (.getfield 65, 3) := by decide +kernel
theorem dX7_measure_72 : decode cX7_measure 72 = .ok (.iload 5, 2) := by decide +kernel
theorem dX7_measure_74 : decode cX7_measure 74 = .ok (.iaload, 1) := by decide +kernel
theorem dX7_measure_75 : decode cX7_measure 75 = .ok (.istore 6, 2) := by decide +kernel
theorem dX7_measure_77 : decode cX7_measure 77 = .ok (.iconst 0, 1) := by decide +kernel
theorem dX7_measure_78 : decode cX7_measure 78 = .ok (.istore 7, 2) := by decide +kernel
theorem dX7_measure_80 : decode cX7_measure 80 = .ok (.iload 7, 2) := by decide +kernel
theorem dX7_measure_82 : decode cX7_measure 82 = .ok (.aload_n 0, 1) := by decide +kernel
theorem dX7_measure_83 : decode cX7_measure 83 = .ok (.getfield 9, 3) := by decide +kernel
theorem dX7_measure_86 : decode cX7_measure 86 = .ok (.if_icmp .ge 147, 3) := by decide +kernel
theorem dX7_measure_89 : decode cX7_measure 89 = .ok (.iconst 0, 1) := by decide +kernel
theorem dX7_measure_90 : decode cX7_measure 90 = .ok (.istore 8, 2) := by decide +kernel
theorem dX7_measure_92 : decode cX7_measure 92 = .ok (.iload 8, 2) := by decide +kernel
theorem dX7_measure_94 : decode cX7_measure 94 = .ok (.iload_n 2, 1) := by decide +kernel
theorem dX7_measure_95 : decode cX7_measure 95 = .ok (.ifCond .eq 7, 3) := by decide +kernel
theorem dX7_measure_98 : decode cX7_measure 98 = .ok (.iconst 1, 1) := by decide +kernel
theorem dX7_measure_99 : decode cX7_measure 99 = .ok (.goto 4, 3) := by decide +kernel
theorem dX7_measure_102 : decode cX7_measure 102 = .ok (.iconst 2, 1) := by decide +kernel
theorem dX7_measure_103 : decode cX7_measure 103 = .ok (.if_icmp .ge 124, 3) := by decide +kernel
theorem dX7_measure_106 : decode cX7_measure 106 = .ok (.iload 8, 2) := by decide +kernel
theorem dX7_measure_108 : decode cX7_measure 108 = .ok (.ifCond .ne 23, 3) := by decide +kernel
theorem dX7_measure_111 : decode cX7_measure 111 = .ok (.aload_n 0, 1) := by decide +kernel
theorem dX7_measure_112 : decode cX7_measure 112 = .ok (.aload_n 0, 1) := by decide +kernel
theorem dX7_measure_113 : decode cX7_measure 113 = .ok (.getfield 44, 3) := by decide +kernel
theorem dX7_measure_116 : decode cX7_measure 116 = .ok (.iload 6, 2) := by decide +kernel
theorem dX7_measure_118 : decode cX7_measure 118 = .ok (.iaload, 1) := by decide +kernel
theorem dX7_measure_119 : decode cX7_measure 119 = .ok (.aload_n 0, 1) := by decide +kernel
theorem dX7_measure_120 : decode cX7_measure 120 = .ok (.getfield 9, 3) := by decide +kernel
theorem dX7_measure_123 : decode cX7_measure 123 = .ok (.iload 7, 2) := by decide +kernel
theorem dX7_measure_125 : decode cX7_measure 125 = .ok (.invokevirtual 143, 3) := by decide +kernel
theorem dX7_measure_128 : decode cX7_measure 128 = .ok (.goto 20, 3) := by decide +kernel
theorem dX7_measure_131 : decode cX7_measure 131 = .ok (.aload_n 0, 1) := by decide +kernel
theorem dX7_measure_132 : decode cX7_measure 132 = .ok (.aload_n 0, 1) := by decide +kernel
theorem dX7_measure_133 : decode cX7_measure 133 = .ok (.getfield 44, 3) := by decide +kernel
theorem dX7_measure_136 : decode cX7_measure 136 = .ok (.iload 6, 2) := by decide +kernel
theorem dX7_measure_138 : decode cX7_measure 138 = .ok (.iaload, 1) := by decide +kernel
theorem dX7_measure_139 : decode cX7_measure 139 = .ok (.aload_n 0, 1) := by decide +kernel
theorem dX7_measure_140 : decode cX7_measure 140 = .ok (.getfield 9, 3) := by decide +kernel
theorem dX7_measure_143 : decode cX7_measure 143 = .ok (.iload 7, 2) := by decide +kernel
theorem dX7_measure_145 : decode cX7_measure 145 = .ok (.invokevirtual 146, 3) := by decide +kernel
theorem dX7_measure_148 : decode cX7_measure 148 = .ok (.istore 9, 2) := by decide +kernel
theorem dX7_measure_150 : decode cX7_measure 150 = .ok (.iload 9, 2) := by decide +kernel
theorem dX7_measure_152 : decode cX7_measure 152 = .ok (.bipush (-5), 2) := by decide +kernel
theorem dX7_measure_154 : decode cX7_measure 154 = .ok (.if_icmp .ne 7, 3) := by decide +kernel
theorem dX7_measure_157 : decode cX7_measure 157 = .ok (.iconst (-1), 1) := by decide +kernel
theorem dX7_measure_158 : decode cX7_measure 158 = .ok (.goto 13, 3) := by decide +kernel
theorem dX7_measure_161 : decode cX7_measure 161 = .ok (.aload_n 0, 1) := by decide +kernel
theorem dX7_measure_162 : decode cX7_measure 162 = .ok (.iload 9, 2) := by decide +kernel
theorem dX7_measure_164 : decode cX7_measure 164 = .ok (.aload_n 0, 1) := by decide +kernel
theorem dX7_measure_165 : decode cX7_measure 165 = .ok (.getfield 9, 3) := by decide +kernel
theorem dX7_measure_168 : decode cX7_measure 168 = .ok (.invokevirtual 139, 3) := by decide +kernel
theorem dX7_measure_171 : decode cX7_measure 171 = .ok (.istore 10, 2) := by decide +kernel
theorem dX7_measure_173 : decode cX7_measure 173 = .ok (.iload 10, 2) := by decide +kernel
theorem dX7_measure_175 : decode cX7_measure 175 = .ok (.iconst (-1), 1) := by decide +kernel
theorem dX7_measure_176 : decode cX7_measure 176 = .ok (.if_icmp .eq 45, 3) := by decide +kernel
theorem dX7_measure_179 : decode cX7_measure 179 = .ok (.aload_n 0, 1) := by decide +kernel
theorem dX7_measure_180 : decode cX7_measure 180 = .ok (.getfield 62, 3) := by decide +kernel
theorem dX7_measure_183 : decode cX7_measure 183 = .ok (.iload 10, 2) := by decide +kernel
theorem dX7_measure_185 : decode cX7_measure 185 = .ok (.iaload, 1) := by decide +kernel
theorem dX7_measure_186 : decode cX7_measure 186 = .ok (.iconst (-1), 1) := by decide +kernel
theorem dX7_measure_187 : decode cX7_measure 187 = .ok (.if_icmp .eq 6, 3) := by decide +kernel
theorem dX7_measure_190 : decode cX7_measure 190 = .ok (.goto 31, 3) := by decide +kernel
theorem dX7_measure_193 : decode cX7_measure 193 = .ok (.aload_n 0, 1) := by decide +kernel
theorem dX7_measure_194 : decode cX7_measure 194 = .ok (.getfield 62, 3) := by decide +kernel
theorem dX7_measure_197 : decode cX7_measure 197 = .ok (.iload 10, 2) := by decide +kernel
theorem dX7_measure_199 : decode cX7_measure 199 = .ok (.aload_n 0, 1) := by decide +kernel
theorem dX7_measure_200 : decode cX7_measure 200 = .ok (.getfield 62, 3) := by decide +kernel
theorem dX7_measure_203 : decode cX7_measure 203 = .ok (.iload 6, 2) := by decide +kernel
theorem dX7_measure_205 : decode cX7_measure 205 = .ok (.iaload, 1) := by decide +kernel
theorem dX7_measure_206 : decode cX7_measure 206 = .ok (.iconst 1, 1) := by decide +kernel
theorem dX7_measure_207 : decode cX7_measure 207 = .ok (.iadd, 1) := by decide +kernel
theorem dX7_measure_208 : decode cX7_measure 208 = .ok (.iastore, 1) := by decide +kernel
theorem dX7_measure_209 : decode cX7_measure 209 = .ok (.aload_n 0, 1) := by decide +kernel
theorem dX7_measure_210 : decode cX7_measure 210 = .ok (.getfield 65, 3) := by decide +kernel
theorem dX7_measure_213 : decode cX7_measure 213 = .ok (.iload 4, 2) := by decide +kernel
theorem dX7_measure_215 : decode cX7_measure 215 = .ok (.iinc 4 1, 3) := by decide +kernel
theorem dX7_measure_218 : decode cX7_measure 218 = .ok (.iload 10, 2) := by decide +kernel
theorem dX7_measure_220 : decode cX7_measure 220 = .ok (.iastore, 1) := by decide +kernel
theorem dX7_measure_221 : decode cX7_measure 221 = .ok (.iinc 8 1, 3) := by decide +kernel
theorem dX7_measure_224 : decode cX7_measure 224 = .ok (.goto (-132), 3) := by decide +kernel
theorem dX7_measure_227 : decode cX7_measure 227 = .ok (.iinc 7 1, 3) := by decide +kernel
theorem dX7_measure_230 : decode cX7_measure 230 = .ok (.goto (-150), 3) := by decide +kernel
theorem dX7_measure_233 : decode cX7_measure 233 = .ok (.iinc 5 1, 3) := by decide +kernel
theorem dX7_measure_236 : decode cX7_measure 236 = .ok (.goto (-175), 3) := by decide +kernel
theorem dX7_measure_239 : decode cX7_measure 239 = .ok (.return_, 1) := by decide +kernel
theorem dX7_firstTurn_0 : decode cX7_firstTurn 0 = .ok (.aload_n 0, 1) := by decide +kernel
theorem dX7_firstTurn_1 : decode cX7_firstTurn 1 = .ok (.getfield 62, 3) := by decide +kernel
theorem dX7_firstTurn_4 : decode cX7_firstTurn 4 = .ok (.aload_n 0, 1) := by decide +kernel
theorem dX7_firstTurn_5 : decode cX7_firstTurn 5 = .ok (.iload_n 1, 1) := by decide +kernel
theorem dX7_firstTurn_6 : decode cX7_firstTurn 6 = .ok (.aload_n 0, 1) := by decide +kernel
theorem dX7_firstTurn_7 : decode cX7_firstTurn 7 = .ok (.getfield 9, 3) := by decide +kernel
theorem dX7_firstTurn_10 : decode cX7_firstTurn 10 = .ok (.invokevirtual 139, 3) := by decide +kernel
theorem dX7_firstTurn_13 : decode cX7_firstTurn 13 = .ok (.iaload, 1) := by decide +kernel
theorem dX7_firstTurn_14 : decode cX7_firstTurn 14 = .ok (.istore_n 2, 1) := by decide +kernel
theorem dX7_firstTurn_15 : decode cX7_firstTurn 15 = .ok (.iload_n 2, 1) := by decide +kernel
theorem dX7_firstTurn_16 : decode cX7_firstTurn 16 = .ok (.ifCond .ne 6, 3) := by decide +kernel
theorem dX7_firstTurn_19 : decode cX7_firstTurn 19 = .ok (.bipush (-5), 2) := by decide +kernel
theorem dX7_firstTurn_21 : decode cX7_firstTurn 21 = .ok (.ireturn, 1) := by decide +kernel
theorem dX7_firstTurn_22 : decode cX7_firstTurn 22 = .ok (.iconst 0, 1) := by decide +kernel
theorem dX7_firstTurn_23 : decode cX7_firstTurn 23 = .ok (.istore_n 3, 1) := by decide +kernel
theorem dX7_firstTurn_24 : decode cX7_firstTurn 24 = .ok (.iload_n 3, 1) := by decide +kernel
theorem dX7_firstTurn_25 : decode cX7_firstTurn 25 = .ok (.iconst 2, 1) := by decide +kernel
theorem dX7_firstTurn_26 : decode cX7_firstTurn 26 = .ok (.if_icmp .ge 94, 3) := by decide +kernel
theorem dX7_firstTurn_29 : decode cX7_firstTurn 29 = .ok (.iconst 0, 1) := by decide +kernel
theorem dX7_firstTurn_30 : decode cX7_firstTurn 30 = .ok (.istore 4, 2) := by decide +kernel
theorem dX7_firstTurn_32 : decode cX7_firstTurn 32 = .ok (.iload 4, 2) := by decide +kernel
theorem dX7_firstTurn_34 : decode cX7_firstTurn 34 = .ok (.aload_n 0, 1) := by decide +kernel
theorem dX7_firstTurn_35 : decode cX7_firstTurn 35 = .ok (.getfield 9, 3) := by decide +kernel
theorem dX7_firstTurn_38 : decode cX7_firstTurn 38 = .ok (.if_icmp .ge 76, 3) := by decide +kernel
theorem dX7_firstTurn_41 : decode cX7_firstTurn 41 = .ok (.iload_n 3, 1) := by decide +kernel
theorem dX7_firstTurn_42 : decode cX7_firstTurn 42 = .ok (.ifCond .ne 17, 3) := by decide +kernel
theorem dX7_firstTurn_45 : decode cX7_firstTurn 45 = .ok (.aload_n 0, 1) := by decide +kernel
theorem dX7_firstTurn_46 : decode cX7_firstTurn 46 = .ok (.iload_n 1, 1) := by decide +kernel
theorem dX7_firstTurn_47 : decode cX7_firstTurn 47 = .ok (.aload_n 0, 1) := by decide +kernel
theorem dX7_firstTurn_48 : decode cX7_firstTurn 48 = .ok (.getfield 9, 3) := by decide +kernel
theorem dX7_firstTurn_51 : decode cX7_firstTurn 51 = .ok (.iload 4, 2) := by decide +kernel
theorem dX7_firstTurn_53 : decode cX7_firstTurn 53 = .ok (.invokevirtual 143, 3) := by decide +kernel
theorem dX7_firstTurn_56 : decode cX7_firstTurn 56 = .ok (.goto 14, 3) := by decide +kernel
theorem dX7_firstTurn_59 : decode cX7_firstTurn 59 = .ok (.aload_n 0, 1) := by decide +kernel
theorem dX7_firstTurn_60 : decode cX7_firstTurn 60 = .ok (.iload_n 1, 1) := by decide +kernel
theorem dX7_firstTurn_61 : decode cX7_firstTurn 61 = .ok (.aload_n 0, 1) := by decide +kernel
theorem dX7_firstTurn_62 : decode cX7_firstTurn 62 = .ok (.getfield 9, 3) := by decide +kernel
theorem dX7_firstTurn_65 : decode cX7_firstTurn 65 = .ok (.iload 4, 2) := by decide +kernel
theorem dX7_firstTurn_67 : decode cX7_firstTurn 67 = .ok (.invokevirtual 146, 3) := by decide +kernel
theorem dX7_firstTurn_70 : decode cX7_firstTurn 70 = .ok (.istore 5, 2) := by decide +kernel
theorem dX7_firstTurn_72 : decode cX7_firstTurn 72 = .ok (.iload 5, 2) := by decide +kernel
theorem dX7_firstTurn_74 : decode cX7_firstTurn 74 = .ok (.bipush (-5), 2) := by decide +kernel
theorem dX7_firstTurn_76 : decode cX7_firstTurn 76 = .ok (.if_icmp .eq 32, 3) := by decide +kernel
theorem dX7_firstTurn_79 : decode cX7_firstTurn 79 = .ok (.aload_n 0, 1) := by decide +kernel
theorem dX7_firstTurn_80 : decode cX7_firstTurn 80 = .ok (.getfield 62, 3) := by decide +kernel
theorem dX7_firstTurn_83 : decode cX7_firstTurn 83 = .ok (.aload_n 0, 1) := by decide +kernel
theorem dX7_firstTurn_84 : decode cX7_firstTurn 84 = .ok (.iload 5, 2) := by decide +kernel
theorem dX7_firstTurn_86 : decode cX7_firstTurn 86 = .ok (.aload_n 0, 1) := by decide +kernel
theorem dX7_firstTurn_87 : decode cX7_firstTurn 87 = .ok (.getfield 9, 3) := by decide +kernel
theorem dX7_firstTurn_90 : decode cX7_firstTurn 90 = .ok (.invokevirtual 139, 3) := by decide +kernel
theorem dX7_firstTurn_93 : decode cX7_firstTurn 93 = .ok (.iaload, 1) := by decide +kernel
theorem dX7_firstTurn_94 : decode cX7_firstTurn 94 = .ok (.iload_n 2, 1) := by decide +kernel
theorem dX7_firstTurn_95 : decode cX7_firstTurn 95 = .ok (.iconst 1, 1) := by decide +kernel
theorem dX7_firstTurn_96 : decode cX7_firstTurn 96 = .ok (.isub, 1) := by decide +kernel
theorem dX7_firstTurn_97 : decode cX7_firstTurn 97 = .ok (.if_icmp .ne 11, 3) := by decide +kernel
theorem dX7_firstTurn_100 : decode cX7_firstTurn 100 = .ok (.bipush 100, 2) := by decide +kernel
theorem dX7_firstTurn_102 : decode cX7_firstTurn 102 = .ok (.iload_n 3, 1) := by decide +kernel
theorem dX7_firstTurn_103 : decode cX7_firstTurn 103 = .ok (.imul, 1) := by decide +kernel
theorem dX7_firstTurn_104 : decode cX7_firstTurn 104 = .ok (.iload 4, 2) := by decide +kernel
theorem dX7_firstTurn_106 : decode cX7_firstTurn 106 = .ok (.iadd, 1) := by decide +kernel
theorem dX7_firstTurn_107 : decode cX7_firstTurn 107 = .ok (.ireturn, 1) := by decide +kernel
theorem dX7_firstTurn_108 : decode cX7_firstTurn 108 = .ok (.iinc 4 1, 3) := by decide +kernel
theorem dX7_firstTurn_111 : decode cX7_firstTurn 111 = .ok (.goto (-79), 3) := by decide +kernel
theorem dX7_firstTurn_114 : decode cX7_firstTurn 114 = .ok (.iinc 3 1, 3) := by decide +kernel
theorem dX7_firstTurn_117 : decode cX7_firstTurn 117 = .ok (.goto (-93), 3) := by decide +kernel
theorem dX7_firstTurn_120 : decode cX7_firstTurn 120 = .ok (.bipush (-5), 2) := by decide +kernel
theorem dX7_firstTurn_122 : decode cX7_firstTurn 122 = .ok (.ireturn, 1) := by decide +kernel
theorem dX7_way_0 : decode cX7_way 0 = .ok (.iload_n 1, 1) := by decide +kernel
theorem dX7_way_1 : decode cX7_way 1 = .ok (.invokestatic 159, 3) := by decide +kernel
theorem dX7_way_4 : decode cX7_way 4 = .ok (.ifCond .eq 13, 3) := by decide +kernel
theorem dX7_way_7 : decode cX7_way 7 = .ok (.iload_n 2, 1) := by decide +kernel
theorem dX7_way_8 : decode cX7_way 8 = .ok (.i2l, 1) := by decide +kernel
theorem dX7_way_9 : decode cX7_way 9 = .ok (.lconst 0, 1) := by decide +kernel
theorem dX7_way_10 : decode cX7_way 10 = .ok (.lconst 1, 1) := by decide +kernel
theorem dX7_way_11 : decode cX7_way 11 = .ok (.invokestatic 85, 3) := by decide +kernel
theorem dX7_way_14 : decode cX7_way 14 = .ok (.ifCond .ne 5, 3) := by decide +kernel
theorem dX7_way_17 : decode cX7_way 17 = .ok (.iconst (-1), 1) := by decide +kernel
theorem dX7_way_18 : decode cX7_way 18 = .ok (.ireturn, 1) := by decide +kernel
theorem dX7_way_19 : decode cX7_way 19 = .ok (.aload_n 0, 1) := by decide +kernel
theorem dX7_way_20 : decode cX7_way 20 = .ok (.iload_n 1, 1) := by decide +kernel
theorem dX7_way_21 : decode cX7_way 21 = .ok (.invokevirtual 162, 3) := by decide +kernel
theorem dX7_way_24 : decode cX7_way 24 = .ok (.istore_n 3, 1) := by decide +kernel
theorem dX7_way_25 : decode cX7_way 25 = .ok (.iload_n 3, 1) := by decide +kernel
theorem dX7_way_26 : decode cX7_way 26 = .ok (.ifCond .eq 5, 3) := by decide +kernel
theorem dX7_way_29 : decode cX7_way 29 = .ok (.iload_n 3, 1) := by decide +kernel
theorem dX7_way_30 : decode cX7_way 30 = .ok (.ireturn, 1) := by decide +kernel
theorem dX7_way_31 : decode cX7_way 31 = .ok (.aload_n 0, 1) := by decide +kernel
theorem dX7_way_32 : decode cX7_way 32 = .ok (.aload_n 0, 1) := by decide +kernel
theorem dX7_way_33 : decode cX7_way 33 = .ok (.getfield 19, 3) := by decide +kernel
theorem dX7_way_36 : decode cX7_way 36 = .ok (.iload_n 1, 1) := by decide +kernel
theorem dX7_way_37 : decode cX7_way 37 = .ok (.iaload, 1) := by decide +kernel
theorem dX7_way_38 : decode cX7_way 38 = .ok (.iconst 0, 1) := by decide +kernel
theorem dX7_way_39 : decode cX7_way 39 = .ok (.invokevirtual 176, 3) := by decide +kernel
theorem dX7_way_42 : decode cX7_way 42 = .ok (.iload_n 2, 1) := by decide +kernel
theorem dX7_way_43 : decode cX7_way 43 = .ok (.ifCond .ne 15, 3) := by decide +kernel
theorem dX7_way_46 : decode cX7_way 46 = .ok (.aload_n 0, 1) := by decide +kernel
theorem dX7_way_47 : decode cX7_way 47 = .ok (.getfield 62, 3) := by decide +kernel
theorem dX7_way_50 : decode cX7_way 50 = .ok (.aload_n 0, 1) := by decide +kernel
theorem dX7_way_51 : decode cX7_way 51 = .ok (.invokevirtual 129, 3) := by decide +kernel
theorem dX7_way_54 : decode cX7_way 54 = .ok (.iaload, 1) := by decide +kernel
theorem dX7_way_55 : decode cX7_way 55 = .ok (.goto 11, 3) := by decide +kernel
theorem dX7_way_58 : decode cX7_way 58 = .ok (.aload_n 0, 1) := by decide +kernel
theorem dX7_way_59 : decode cX7_way 59 = .ok (.aload_n 0, 1) := by decide +kernel
theorem dX7_way_60 : decode cX7_way 60 = .ok (.getfield 118, 3) := by decide +kernel
theorem dX7_way_63 : decode cX7_way 63 = .ok (.invokevirtual 180, 3) := by decide +kernel
theorem dX7_way_66 : decode cX7_way 66 = .ok (.ireturn, 1) := by decide +kernel
theorem dX7_longest_0 : decode cX7_longest 0 = .ok (.iconst 0, 1) := by decide +kernel
theorem dX7_longest_1 : decode cX7_longest 1 = .ok (.istore_n 2, 1) := by decide +kernel
theorem dX7_longest_2 : decode cX7_longest 2 = .ok (.iload_n 2, 1) := by decide +kernel
theorem dX7_longest_3 : decode cX7_longest 3 = .ok (.aload_n 0, 1) := by decide +kernel
theorem dX7_longest_4 : decode cX7_longest 4 = .ok (.getfield 92, 3) := by decide +kernel
theorem dX7_longest_7 : decode cX7_longest 7 = .ok (.if_icmp .ge 33, 3) := by decide +kernel
theorem dX7_longest_10 : decode cX7_longest 10 = .ok (.aload_n 0, 1) := by decide +kernel
theorem dX7_longest_11 : decode cX7_longest 11 = .ok (.getfield 65, 3) := by decide +kernel
theorem dX7_longest_14 : decode cX7_longest 14 = .ok (.iload_n 2, 1) := by decide +kernel
theorem dX7_longest_15 : decode cX7_longest 15 = .ok (.aload_n 0, 1) := by decide +kernel
theorem dX7_longest_16 : decode cX7_longest 16 = .ok (.getfield 44, 3) := by decide +kernel
theorem dX7_longest_19 : decode cX7_longest 19 = .ok (.iload_n 2, 1) := by decide +kernel
theorem dX7_longest_20 : decode cX7_longest 20 = .ok (.iaload, 1) := by decide +kernel
theorem dX7_longest_21 : decode cX7_longest 21 = .ok (.aload_n 0, 1) := by decide +kernel
theorem dX7_longest_22 : decode cX7_longest 22 = .ok (.getfield 118, 3) := by decide +kernel
theorem dX7_longest_25 : decode cX7_longest 25 = .ok (.if_icmp .ne 7, 3) := by decide +kernel
theorem dX7_longest_28 : decode cX7_longest 28 = .ok (.iconst 0, 1) := by decide +kernel
theorem dX7_longest_29 : decode cX7_longest 29 = .ok (.goto 4, 3) := by decide +kernel
theorem dX7_longest_32 : decode cX7_longest 32 = .ok (.iconst (-1), 1) := by decide +kernel
theorem dX7_longest_33 : decode cX7_longest 33 = .ok (.iastore, 1) := by decide +kernel
theorem dX7_longest_34 : decode cX7_longest 34 = .ok (.iinc 2 1, 3) := by decide +kernel
theorem dX7_longest_37 : decode cX7_longest 37 = .ok (.goto (-35), 3) := by decide +kernel
theorem dX7_longest_40 : decode cX7_longest 40 = .ok (.iconst 0, 1) := by decide +kernel
theorem dX7_longest_41 : decode cX7_longest 41 = .ok (.istore_n 2, 1) := by decide +kernel
theorem dX7_longest_42 : decode cX7_longest 42 = .ok (.iload_n 2, 1) := by decide +kernel
theorem dX7_longest_43 : decode cX7_longest 43 = .ok (.aload_n 0, 1) := by decide +kernel
theorem dX7_longest_44 : decode cX7_longest 44 = .ok (.getfield 92, 3) := by decide +kernel
theorem dX7_longest_47 : decode cX7_longest 47 = .ok (.if_icmp .ge 102, 3) := by decide +kernel
theorem dX7_longest_50 : decode cX7_longest 50 = .ok (.aload_n 0, 1) := by decide +kernel
theorem dX7_longest_51 : decode cX7_longest 51 = .ok (.getfield 65, 3) := by decide +kernel
theorem dX7_longest_54 : decode cX7_longest 54 = .ok (.iload_n 2, 1) := by decide +kernel
theorem dX7_longest_55 : decode cX7_longest 55 = .ok (.iaload, 1) := by decide +kernel
theorem dX7_longest_56 : decode cX7_longest 56 = .ok (.iconst (-1), 1) := by decide +kernel
theorem dX7_longest_57 : decode cX7_longest 57 = .ok (.if_icmp .ne 6, 3) := by decide +kernel
theorem dX7_longest_60 : decode cX7_longest 60 = .ok (.goto 83, 3) := by decide +kernel
theorem dX7_longest_63 : decode cX7_longest 63 = .ok (.iconst 0, 1) := by decide +kernel
theorem dX7_longest_64 : decode cX7_longest 64 = .ok (.istore_n 3, 1) := by decide +kernel
theorem dX7_longest_65 : decode cX7_longest 65 = .ok (.iload_n 3, 1) := by decide +kernel
theorem dX7_longest_66 : decode cX7_longest 66 = .ok (.aload_n 0, 1) := by decide +kernel
theorem dX7_longest_67 : decode cX7_longest 67 = .ok (.getfield 9, 3) := by decide +kernel
theorem dX7_longest_70 : decode cX7_longest 70 = .ok (.if_icmp .ge 73, 3) := by decide +kernel
theorem dX7_longest_73 : decode cX7_longest 73 = .ok (.aload_n 0, 1) := by decide +kernel
theorem dX7_longest_74 : decode cX7_longest 74 = .ok (.aload_n 0, 1) := by decide +kernel
theorem dX7_longest_75 : decode cX7_longest 75 = .ok (.getfield 44, 3) := by decide +kernel
theorem dX7_longest_78 : decode cX7_longest 78 = .ok (.iload_n 2, 1) := by decide +kernel
theorem dX7_longest_79 : decode cX7_longest 79 = .ok (.iaload, 1) := by decide +kernel
theorem dX7_longest_80 : decode cX7_longest 80 = .ok (.aload_n 0, 1) := by decide +kernel
theorem dX7_longest_81 : decode cX7_longest 81 = .ok (.getfield 9, 3) := by decide +kernel
theorem dX7_longest_84 : decode cX7_longest 84 = .ok (.iload_n 3, 1) := by decide +kernel
theorem dX7_longest_85 : decode cX7_longest 85 = .ok (.invokevirtual 143, 3) := by decide +kernel
theorem dX7_longest_88 : decode cX7_longest 88 = .ok (.istore 4, 2) := by decide +kernel
theorem dX7_longest_90 : decode cX7_longest 90 = .ok (.iload 4, 2) := by decide +kernel
theorem dX7_longest_92 : decode cX7_longest 92 = .ok (.bipush (-5), 2) := by decide +kernel
theorem dX7_longest_94 : decode cX7_longest 94 = .ok (.if_icmp .ne 6, 3) := by decide +kernel
theorem dX7_longest_97 : decode cX7_longest 97 = .ok (.goto 40, 3) := by decide +kernel
theorem dX7_longest_100 : decode cX7_longest 100 = .ok (.aload_n 0, 1) := by decide +kernel
theorem dX7_longest_101 : decode cX7_longest 101 = .ok (.iload 4, 2) := by decide +kernel
theorem dX7_longest_103 : decode cX7_longest 103 = .ok (.aload_n 0, 1) := by decide +kernel
theorem dX7_longest_104 : decode cX7_longest 104 = .ok (.getfield 9, 3) := by decide +kernel
theorem dX7_longest_107 : decode cX7_longest 107 = .ok (.invokevirtual 139, 3) := by decide +kernel
theorem dX7_longest_110 : decode cX7_longest 110 = .ok (.istore 5, 2) := by decide +kernel
theorem dX7_longest_112 : decode cX7_longest 112 = .ok (.aload_n 0, 1) := by decide +kernel
theorem dX7_longest_113 : decode cX7_longest 113 = .ok (.getfield 65, 3) := by decide +kernel
theorem dX7_longest_116 : decode cX7_longest 116 = .ok (.iload 5, 2) := by decide +kernel
theorem dX7_longest_118 : decode cX7_longest 118 = .ok (.aload_n 0, 1) := by decide +kernel
theorem dX7_longest_119 : decode cX7_longest 119 = .ok (.getfield 65, 3) := by decide +kernel
theorem dX7_longest_122 : decode cX7_longest 122 = .ok (.iload 5, 2) := by decide +kernel
theorem dX7_longest_124 : decode cX7_longest 124 = .ok (.iaload, 1) := by decide +kernel
theorem dX7_longest_125 : decode cX7_longest 125 = .ok (.aload_n 0, 1) := by decide +kernel
theorem dX7_longest_126 : decode cX7_longest 126 = .ok (.getfield 65, 3) := by decide +kernel
theorem dX7_longest_129 : decode cX7_longest 129 = .ok (.iload_n 2, 1) := by decide +kernel
theorem dX7_longest_130 : decode cX7_longest 130 = .ok (.iaload, 1) := by decide +kernel
theorem dX7_longest_131 : decode cX7_longest 131 = .ok (.iconst 1, 1) := by decide +kernel
theorem dX7_longest_132 : decode cX7_longest 132 = .ok (.iadd, 1) := by decide +kernel
theorem dX7_longest_133 : decode cX7_longest 133 = .ok (.invokestatic 183, 3) := by decide +kernel
theorem dX7_longest_136 : decode cX7_longest 136 = .ok (.iastore, 1) := by decide +kernel
theorem dX7_longest_137 : decode cX7_longest 137 = .ok (.iinc 3 1, 3) := by decide +kernel
theorem dX7_longest_140 : decode cX7_longest 140 = .ok (.goto (-75), 3) := by decide +kernel
theorem dX7_longest_143 : decode cX7_longest 143 = .ok (.iinc 2 1, 3) := by decide +kernel
theorem dX7_longest_146 : decode cX7_longest 146 = .ok (.goto (-104), 3) := by decide +kernel
theorem dX7_longest_149 : decode cX7_longest 149 = .ok (.aload_n 0, 1) := by decide +kernel
theorem dX7_longest_150 : decode cX7_longest 150 = .ok (.getfield 65, 3) := by decide +kernel
theorem dX7_longest_153 : decode cX7_longest 153 = .ok (.aload_n 0, 1) := by decide +kernel
theorem dX7_longest_154 : decode cX7_longest 154 = .ok (.iload_n 1, 1) := by decide +kernel
theorem dX7_longest_155 : decode cX7_longest 155 = .ok (.aload_n 0, 1) := by decide +kernel
theorem dX7_longest_156 : decode cX7_longest 156 = .ok (.getfield 9, 3) := by decide +kernel
theorem dX7_longest_159 : decode cX7_longest 159 = .ok (.invokevirtual 139, 3) := by decide +kernel
theorem dX7_longest_162 : decode cX7_longest 162 = .ok (.iaload, 1) := by decide +kernel
theorem dX7_longest_163 : decode cX7_longest 163 = .ok (.ireturn, 1) := by decide +kernel
theorem dX7_chain_0 : decode cX7_chain 0 = .ok (.iload_n 1, 1) := by decide +kernel
theorem dX7_chain_1 : decode cX7_chain 1 = .ok (.invokestatic 159, 3) := by decide +kernel
theorem dX7_chain_4 : decode cX7_chain 4 = .ok (.ifCond .eq 13, 3) := by decide +kernel
theorem dX7_chain_7 : decode cX7_chain 7 = .ok (.iload_n 2, 1) := by decide +kernel
theorem dX7_chain_8 : decode cX7_chain 8 = .ok (.i2l, 1) := by decide +kernel
theorem dX7_chain_9 : decode cX7_chain 9 = .ok (.lconst 0, 1) := by decide +kernel
theorem dX7_chain_10 : decode cX7_chain 10 = .ok (.lconst 1, 1) := by decide +kernel
theorem dX7_chain_11 : decode cX7_chain 11 = .ok (.invokestatic 85, 3) := by decide +kernel
theorem dX7_chain_14 : decode cX7_chain 14 = .ok (.ifCond .ne 5, 3) := by decide +kernel
theorem dX7_chain_17 : decode cX7_chain 17 = .ok (.iconst (-1), 1) := by decide +kernel
theorem dX7_chain_18 : decode cX7_chain 18 = .ok (.ireturn, 1) := by decide +kernel
theorem dX7_chain_19 : decode cX7_chain 19 = .ok (.aload_n 0, 1) := by decide +kernel
theorem dX7_chain_20 : decode cX7_chain 20 = .ok (.iload_n 1, 1) := by decide +kernel
theorem dX7_chain_21 : decode cX7_chain 21 = .ok (.invokevirtual 162, 3) := by decide +kernel
theorem dX7_chain_24 : decode cX7_chain 24 = .ok (.istore_n 3, 1) := by decide +kernel
theorem dX7_chain_25 : decode cX7_chain 25 = .ok (.iload_n 3, 1) := by decide +kernel
theorem dX7_chain_26 : decode cX7_chain 26 = .ok (.ifCond .eq 5, 3) := by decide +kernel
theorem dX7_chain_29 : decode cX7_chain 29 = .ok (.iload_n 3, 1) := by decide +kernel
theorem dX7_chain_30 : decode cX7_chain 30 = .ok (.ireturn, 1) := by decide +kernel
theorem dX7_chain_31 : decode cX7_chain 31 = .ok (.aload_n 0, 1) := by decide +kernel
theorem dX7_chain_32 : decode cX7_chain 32 = .ok (.getfield 118, 3) := by decide +kernel
theorem dX7_chain_35 : decode cX7_chain 35 = .ok (.aload_n 0, 1) := by decide +kernel
theorem dX7_chain_36 : decode cX7_chain 36 = .ok (.getfield 19, 3) := by decide +kernel
theorem dX7_chain_39 : decode cX7_chain 39 = .ok (.iload_n 1, 1) := by decide +kernel
theorem dX7_chain_40 : decode cX7_chain 40 = .ok (.iaload, 1) := by decide +kernel
theorem dX7_chain_41 : decode cX7_chain 41 = .ok (.aload_n 0, 1) := by decide +kernel
theorem dX7_chain_42 : decode cX7_chain 42 = .ok (.getfield 9, 3) := by decide +kernel
theorem dX7_chain_45 : decode cX7_chain 45 = .ok (.invokestatic 165, 3) := by decide +kernel
theorem dX7_chain_48 : decode cX7_chain 48 = .ok (.ifCond .ne 6, 3) := by decide +kernel
theorem dX7_chain_51 : decode cX7_chain 51 = .ok (.bipush (-5), 2) := by decide +kernel
theorem dX7_chain_53 : decode cX7_chain 53 = .ok (.ireturn, 1) := by decide +kernel
theorem dX7_chain_54 : decode cX7_chain 54 = .ok (.aload_n 0, 1) := by decide +kernel
theorem dX7_chain_55 : decode cX7_chain 55 = .ok (.aload_n 0, 1) := by decide +kernel
theorem dX7_chain_56 : decode cX7_chain 56 = .ok (.getfield 9, 3) := by decide +kernel
theorem dX7_chain_59 : decode cX7_chain 59 = .ok (.invokevirtual 99, 3) := by decide +kernel
theorem dX7_chain_62 : decode cX7_chain 62 = .ok (.iload_n 2, 1) := by decide +kernel
theorem dX7_chain_63 : decode cX7_chain 63 = .ok (.iconst 1, 1) := by decide +kernel
theorem dX7_chain_64 : decode cX7_chain 64 = .ok (.if_icmp .ne 14, 3) := by decide +kernel
theorem dX7_chain_67 : decode cX7_chain 67 = .ok (.aload_n 0, 1) := by decide +kernel
theorem dX7_chain_68 : decode cX7_chain 68 = .ok (.aload_n 0, 1) := by decide +kernel
theorem dX7_chain_69 : decode cX7_chain 69 = .ok (.getfield 19, 3) := by decide +kernel
theorem dX7_chain_72 : decode cX7_chain 72 = .ok (.iload_n 1, 1) := by decide +kernel
theorem dX7_chain_73 : decode cX7_chain 73 = .ok (.iaload, 1) := by decide +kernel
theorem dX7_chain_74 : decode cX7_chain 74 = .ok (.invokevirtual 188, 3) := by decide +kernel
theorem dX7_chain_77 : decode cX7_chain 77 = .ok (.ireturn, 1) := by decide +kernel
theorem dX7_chain_78 : decode cX7_chain 78 = .ok (.aload_n 0, 1) := by decide +kernel
theorem dX7_chain_79 : decode cX7_chain 79 = .ok (.aload_n 0, 1) := by decide +kernel
theorem dX7_chain_80 : decode cX7_chain 80 = .ok (.getfield 118, 3) := by decide +kernel
theorem dX7_chain_83 : decode cX7_chain 83 = .ok (.iconst 1, 1) := by decide +kernel
theorem dX7_chain_84 : decode cX7_chain 84 = .ok (.invokevirtual 176, 3) := by decide +kernel
theorem dX7_chain_87 : decode cX7_chain 87 = .ok (.aload_n 0, 1) := by decide +kernel
theorem dX7_chain_88 : decode cX7_chain 88 = .ok (.getfield 62, 3) := by decide +kernel
theorem dX7_chain_91 : decode cX7_chain 91 = .ok (.aload_n 0, 1) := by decide +kernel
theorem dX7_chain_92 : decode cX7_chain 92 = .ok (.aload_n 0, 1) := by decide +kernel
theorem dX7_chain_93 : decode cX7_chain 93 = .ok (.getfield 19, 3) := by decide +kernel
theorem dX7_chain_96 : decode cX7_chain 96 = .ok (.iload_n 1, 1) := by decide +kernel
theorem dX7_chain_97 : decode cX7_chain 97 = .ok (.iaload, 1) := by decide +kernel
theorem dX7_chain_98 : decode cX7_chain 98 = .ok (.aload_n 0, 1) := by decide +kernel
theorem dX7_chain_99 : decode cX7_chain 99 = .ok (.getfield 9, 3) := by decide +kernel
theorem dX7_chain_102 : decode cX7_chain 102 = .ok (.invokevirtual 139, 3) := by decide +kernel
theorem dX7_chain_105 : decode cX7_chain 105 = .ok (.iaload, 1) := by decide +kernel
theorem dX7_chain_106 : decode cX7_chain 106 = .ok (.ireturn, 1) := by decide +kernel
theorem dX7_mark_0 : decode cX7_mark 0 = .ok (.iload_n 1, 1) := by decide +kernel
theorem dX7_mark_1 : decode cX7_mark 1 = .ok (.invokestatic 159, 3) := by decide +kernel
theorem dX7_mark_4 : decode cX7_mark 4 = .ok (.ifCond .ne 6, 3) := by decide +kernel
theorem dX7_mark_7 : decode cX7_mark 7 = .ok (.bipush (-99), 2) := by decide +kernel
theorem dX7_mark_9 : decode cX7_mark 9 = .ok (.ireturn, 1) := by decide +kernel
theorem dX7_mark_10 : decode cX7_mark 10 = .ok (.aload_n 0, 1) := by decide +kernel
theorem dX7_mark_11 : decode cX7_mark 11 = .ok (.iload_n 1, 1) := by decide +kernel
theorem dX7_mark_12 : decode cX7_mark 12 = .ok (.invokevirtual 162, 3) := by decide +kernel
theorem dX7_mark_15 : decode cX7_mark 15 = .ok (.istore_n 2, 1) := by decide +kernel
theorem dX7_mark_16 : decode cX7_mark 16 = .ok (.iload_n 2, 1) := by decide +kernel
theorem dX7_mark_17 : decode cX7_mark 17 = .ok (.ifCond .eq 8, 3) := by decide +kernel
theorem dX7_mark_20 : decode cX7_mark 20 = .ok (.bipush (-100), 2) := by decide +kernel
theorem dX7_mark_22 : decode cX7_mark 22 = .ok (.iload_n 2, 1) := by decide +kernel
theorem dX7_mark_23 : decode cX7_mark 23 = .ok (.isub, 1) := by decide +kernel
theorem dX7_mark_24 : decode cX7_mark 24 = .ok (.ireturn, 1) := by decide +kernel
theorem dX7_mark_25 : decode cX7_mark 25 = .ok (.aload_n 0, 1) := by decide +kernel
theorem dX7_mark_26 : decode cX7_mark 26 = .ok (.getfield 19, 3) := by decide +kernel
theorem dX7_mark_29 : decode cX7_mark 29 = .ok (.iload_n 1, 1) := by decide +kernel
theorem dX7_mark_30 : decode cX7_mark 30 = .ok (.iaload, 1) := by decide +kernel
theorem dX7_mark_31 : decode cX7_mark 31 = .ok (.istore_n 3, 1) := by decide +kernel
theorem dX7_mark_32 : decode cX7_mark 32 = .ok (.aload_n 0, 1) := by decide +kernel
theorem dX7_mark_33 : decode cX7_mark 33 = .ok (.getfield 118, 3) := by decide +kernel
theorem dX7_mark_36 : decode cX7_mark 36 = .ok (.iload_n 3, 1) := by decide +kernel
theorem dX7_mark_37 : decode cX7_mark 37 = .ok (.aload_n 0, 1) := by decide +kernel
theorem dX7_mark_38 : decode cX7_mark 38 = .ok (.getfield 9, 3) := by decide +kernel
theorem dX7_mark_41 : decode cX7_mark 41 = .ok (.invokestatic 165, 3) := by decide +kernel
theorem dX7_mark_44 : decode cX7_mark 44 = .ok (.ifCond .ne 6, 3) := by decide +kernel
theorem dX7_mark_47 : decode cX7_mark 47 = .ok (.bipush (-95), 2) := by decide +kernel
theorem dX7_mark_49 : decode cX7_mark 49 = .ok (.ireturn, 1) := by decide +kernel
theorem dX7_mark_50 : decode cX7_mark 50 = .ok (.aload_n 0, 1) := by decide +kernel
theorem dX7_mark_51 : decode cX7_mark 51 = .ok (.aload_n 0, 1) := by decide +kernel
theorem dX7_mark_52 : decode cX7_mark 52 = .ok (.getfield 9, 3) := by decide +kernel
theorem dX7_mark_55 : decode cX7_mark 55 = .ok (.invokevirtual 99, 3) := by decide +kernel
theorem dX7_mark_58 : decode cX7_mark 58 = .ok (.iconst 0, 1) := by decide +kernel
theorem dX7_mark_59 : decode cX7_mark 59 = .ok (.istore 4, 2) := by decide +kernel
theorem dX7_mark_61 : decode cX7_mark 61 = .ok (.iload 4, 2) := by decide +kernel
theorem dX7_mark_63 : decode cX7_mark 63 = .ok (.aload_n 0, 1) := by decide +kernel
theorem dX7_mark_64 : decode cX7_mark 64 = .ok (.getfield 92, 3) := by decide +kernel
theorem dX7_mark_67 : decode cX7_mark 67 = .ok (.if_icmp .ge 129, 3) := by decide +kernel
theorem dX7_mark_70 : decode cX7_mark 70 = .ok (.aload_n 0, 1) := by decide +kernel
theorem dX7_mark_71 : decode cX7_mark 71 = .ok (.getfield 68, 3) := by decide +kernel
theorem dX7_mark_74 : decode cX7_mark 74 = .ok (.iload 4, 2) := by decide +kernel
theorem dX7_mark_76 : decode cX7_mark 76 = .ok (.aload_n 0, 1) := by decide +kernel
theorem dX7_mark_77 : decode cX7_mark 77 = .ok (.getfield 44, 3) := by decide +kernel
theorem dX7_mark_80 : decode cX7_mark 80 = .ok (.iload 4, 2) := by decide +kernel
theorem dX7_mark_82 : decode cX7_mark 82 = .ok (.iaload, 1) := by decide +kernel
theorem dX7_mark_83 : decode cX7_mark 83 = .ok (.aload_n 0, 1) := by decide +kernel
theorem dX7_mark_84 : decode cX7_mark 84 = .ok (.getfield 118, 3) := by decide +kernel
theorem dX7_mark_87 : decode cX7_mark 87 = .ok (.if_icmp .ne 7, 3) := by decide +kernel
theorem dX7_mark_90 : decode cX7_mark 90 = .ok (.iconst 1, 1) := by decide +kernel
theorem dX7_mark_91 : decode cX7_mark 91 = .ok (.goto 4, 3) := by decide +kernel
theorem dX7_mark_94 : decode cX7_mark 94 = .ok (.iconst 0, 1) := by decide +kernel
theorem dX7_mark_95 : decode cX7_mark 95 = .ok (.iastore, 1) := by decide +kernel
theorem dX7_mark_96 : decode cX7_mark 96 = .ok (.aload_n 0, 1) := by decide +kernel
theorem dX7_mark_97 : decode cX7_mark 97 = .ok (.getfield 44, 3) := by decide +kernel
theorem dX7_mark_100 : decode cX7_mark 100 = .ok (.iload 4, 2) := by decide +kernel
theorem dX7_mark_102 : decode cX7_mark 102 = .ok (.iaload, 1) := by decide +kernel
theorem dX7_mark_103 : decode cX7_mark 103 = .ok (.aload_n 0, 1) := by decide +kernel
theorem dX7_mark_104 : decode cX7_mark 104 = .ok (.getfield 118, 3) := by decide +kernel
theorem dX7_mark_107 : decode cX7_mark 107 = .ok (.if_icmp .eq 83, 3) := by decide +kernel
theorem dX7_mark_110 : decode cX7_mark 110 = .ok (.aload_n 0, 1) := by decide +kernel
theorem dX7_mark_111 : decode cX7_mark 111 = .ok (.aload_n 0, 1) := by decide +kernel
theorem dX7_mark_112 : decode cX7_mark 112 = .ok (.getfield 44, 3) := by decide +kernel
theorem dX7_mark_115 : decode cX7_mark 115 = .ok (.iload 4, 2) := by decide +kernel
theorem dX7_mark_117 : decode cX7_mark 117 = .ok (.iaload, 1) := by decide +kernel
theorem dX7_mark_118 : decode cX7_mark 118 = .ok (.aload_n 0, 1) := by decide +kernel
theorem dX7_mark_119 : decode cX7_mark 119 = .ok (.getfield 118, 3) := by decide +kernel
theorem dX7_mark_122 : decode cX7_mark 122 = .ok (.iload_n 3, 1) := by decide +kernel
theorem dX7_mark_123 : decode cX7_mark 123 = .ok (.invokevirtual 173, 3) := by decide +kernel
theorem dX7_mark_126 : decode cX7_mark 126 = .ok (.ifCond .ne 6, 3) := by decide +kernel
theorem dX7_mark_129 : decode cX7_mark 129 = .ok (.goto 61, 3) := by decide +kernel
theorem dX7_mark_132 : decode cX7_mark 132 = .ok (.iconst 0, 1) := by decide +kernel
theorem dX7_mark_133 : decode cX7_mark 133 = .ok (.istore 5, 2) := by decide +kernel
theorem dX7_mark_135 : decode cX7_mark 135 = .ok (.iload 5, 2) := by decide +kernel
theorem dX7_mark_137 : decode cX7_mark 137 = .ok (.iload 4, 2) := by decide +kernel
theorem dX7_mark_139 : decode cX7_mark 139 = .ok (.if_icmp .ge 51, 3) := by decide +kernel
theorem dX7_mark_142 : decode cX7_mark 142 = .ok (.aload_n 0, 1) := by decide +kernel
theorem dX7_mark_143 : decode cX7_mark 143 = .ok (.aload_n 0, 1) := by decide +kernel
theorem dX7_mark_144 : decode cX7_mark 144 = .ok (.getfield 44, 3) := by decide +kernel
theorem dX7_mark_147 : decode cX7_mark 147 = .ok (.iload 5, 2) := by decide +kernel
theorem dX7_mark_149 : decode cX7_mark 149 = .ok (.iaload, 1) := by decide +kernel
theorem dX7_mark_150 : decode cX7_mark 150 = .ok (.aload_n 0, 1) := by decide +kernel
theorem dX7_mark_151 : decode cX7_mark 151 = .ok (.getfield 118, 3) := by decide +kernel
theorem dX7_mark_154 : decode cX7_mark 154 = .ok (.aload_n 0, 1) := by decide +kernel
theorem dX7_mark_155 : decode cX7_mark 155 = .ok (.getfield 44, 3) := by decide +kernel
theorem dX7_mark_158 : decode cX7_mark 158 = .ok (.iload 4, 2) := by decide +kernel
theorem dX7_mark_160 : decode cX7_mark 160 = .ok (.iaload, 1) := by decide +kernel
theorem dX7_mark_161 : decode cX7_mark 161 = .ok (.invokevirtual 173, 3) := by decide +kernel
theorem dX7_mark_164 : decode cX7_mark 164 = .ok (.ifCond .eq 20, 3) := by decide +kernel
theorem dX7_mark_167 : decode cX7_mark 167 = .ok (.aload_n 0, 1) := by decide +kernel
theorem dX7_mark_168 : decode cX7_mark 168 = .ok (.getfield 68, 3) := by decide +kernel
theorem dX7_mark_171 : decode cX7_mark 171 = .ok (.iload 4, 2) := by decide +kernel
theorem dX7_mark_173 : decode cX7_mark 173 = .ok (.dup2, 1) := by decide +kernel
theorem dX7_mark_174 : decode cX7_mark 174 = .ok (.iaload, 1) := by decide +kernel
theorem dX7_mark_175 : decode cX7_mark 175 = .ok (.aload_n 0, 1) := by decide +kernel
theorem dX7_mark_176 : decode cX7_mark 176 = .ok (.getfield 68, 3) := by decide +kernel
theorem dX7_mark_179 : decode cX7_mark 179 = .ok (.iload 5, 2) := by decide +kernel
theorem dX7_mark_181 : decode cX7_mark 181 = .ok (.iaload, 1) := by decide +kernel
theorem dX7_mark_182 : decode cX7_mark 182 = .ok (.isub, 1) := by decide +kernel
theorem dX7_mark_183 : decode cX7_mark 183 = .ok (.iastore, 1) := by decide +kernel
theorem dX7_mark_184 : decode cX7_mark 184 = .ok (.iinc 5 1, 3) := by decide +kernel
theorem dX7_mark_187 : decode cX7_mark 187 = .ok (.goto (-52), 3) := by decide +kernel
theorem dX7_mark_190 : decode cX7_mark 190 = .ok (.iinc 4 1, 3) := by decide +kernel
theorem dX7_mark_193 : decode cX7_mark 193 = .ok (.goto (-132), 3) := by decide +kernel
theorem dX7_mark_196 : decode cX7_mark 196 = .ok (.aload_n 0, 1) := by decide +kernel
theorem dX7_mark_197 : decode cX7_mark 197 = .ok (.getfield 68, 3) := by decide +kernel
theorem dX7_mark_200 : decode cX7_mark 200 = .ok (.aload_n 0, 1) := by decide +kernel
theorem dX7_mark_201 : decode cX7_mark 201 = .ok (.iload_n 3, 1) := by decide +kernel
theorem dX7_mark_202 : decode cX7_mark 202 = .ok (.aload_n 0, 1) := by decide +kernel
theorem dX7_mark_203 : decode cX7_mark 203 = .ok (.getfield 9, 3) := by decide +kernel
theorem dX7_mark_206 : decode cX7_mark 206 = .ok (.invokevirtual 139, 3) := by decide +kernel
theorem dX7_mark_209 : decode cX7_mark 209 = .ok (.iaload, 1) := by decide +kernel
theorem dX7_mark_210 : decode cX7_mark 210 = .ok (.ireturn, 1) := by decide +kernel
theorem dX7_pairs_0 : decode cX7_pairs 0 = .ok (.iload_n 1, 1) := by decide +kernel
theorem dX7_pairs_1 : decode cX7_pairs 1 = .ok (.i2l, 1) := by decide +kernel
theorem dX7_pairs_2 : decode cX7_pairs 2 = .ok (.lconst 1, 1) := by decide +kernel
theorem dX7_pairs_3 : decode cX7_pairs 3 = .ok (.ldc2_w 191, 3) := by decide +kernel
theorem dX7_pairs_6 : decode cX7_pairs 6 = .ok (.invokestatic 85, 3) := by decide +kernel
theorem dX7_pairs_9 : decode cX7_pairs 9 = .ok (.ifCond .ne 6, 3) := by decide +kernel
theorem dX7_pairs_12 : decode cX7_pairs 12 = .ok (.bipush (-2), 2) := by decide +kernel
theorem dX7_pairs_14 : decode cX7_pairs 14 = .ok (.ireturn, 1) := by decide +kernel
theorem dX7_pairs_15 : decode cX7_pairs 15 = .ok (.aload_n 0, 1) := by decide +kernel
theorem dX7_pairs_16 : decode cX7_pairs 16 = .ok (.iload_n 1, 1) := by decide +kernel
theorem dX7_pairs_17 : decode cX7_pairs 17 = .ok (.invokevirtual 99, 3) := by decide +kernel
theorem dX7_pairs_20 : decode cX7_pairs 20 = .ok (.iconst 0, 1) := by decide +kernel
theorem dX7_pairs_21 : decode cX7_pairs 21 = .ok (.istore_n 2, 1) := by decide +kernel
theorem dX7_pairs_22 : decode cX7_pairs 22 = .ok (.iconst 0, 1) := by decide +kernel
theorem dX7_pairs_23 : decode cX7_pairs 23 = .ok (.istore_n 3, 1) := by decide +kernel
theorem dX7_pairs_24 : decode cX7_pairs 24 = .ok (.iload_n 3, 1) := by decide +kernel
theorem dX7_pairs_25 : decode cX7_pairs 25 = .ok (.aload_n 0, 1) := by decide +kernel
theorem dX7_pairs_26 : decode cX7_pairs 26 = .ok (.getfield 92, 3) := by decide +kernel
theorem dX7_pairs_29 : decode cX7_pairs 29 = .ok (.if_icmp .ge 50, 3) := by decide +kernel
theorem dX7_pairs_32 : decode cX7_pairs 32 = .ok (.iload_n 3, 1) := by decide +kernel
theorem dX7_pairs_33 : decode cX7_pairs 33 = .ok (.istore 4, 2) := by decide +kernel
theorem dX7_pairs_35 : decode cX7_pairs 35 = .ok (.iload 4, 2) := by decide +kernel
theorem dX7_pairs_37 : decode cX7_pairs 37 = .ok (.aload_n 0, 1) := by decide +kernel
theorem dX7_pairs_38 : decode cX7_pairs 38 = .ok (.getfield 92, 3) := by decide +kernel
theorem dX7_pairs_41 : decode cX7_pairs 41 = .ok (.if_icmp .ge 32, 3) := by decide +kernel
theorem dX7_pairs_44 : decode cX7_pairs 44 = .ok (.aload_n 0, 1) := by decide +kernel
theorem dX7_pairs_45 : decode cX7_pairs 45 = .ok (.getfield 44, 3) := by decide +kernel
theorem dX7_pairs_48 : decode cX7_pairs 48 = .ok (.iload_n 3, 1) := by decide +kernel
theorem dX7_pairs_49 : decode cX7_pairs 49 = .ok (.iaload, 1) := by decide +kernel
theorem dX7_pairs_50 : decode cX7_pairs 50 = .ok (.aload_n 0, 1) := by decide +kernel
theorem dX7_pairs_51 : decode cX7_pairs 51 = .ok (.getfield 44, 3) := by decide +kernel
theorem dX7_pairs_54 : decode cX7_pairs 54 = .ok (.iload 4, 2) := by decide +kernel
theorem dX7_pairs_56 : decode cX7_pairs 56 = .ok (.iaload, 1) := by decide +kernel
theorem dX7_pairs_57 : decode cX7_pairs 57 = .ok (.iload_n 1, 1) := by decide +kernel
theorem dX7_pairs_58 : decode cX7_pairs 58 = .ok (.invokestatic 165, 3) := by decide +kernel
theorem dX7_pairs_61 : decode cX7_pairs 61 = .ok (.ifCond .eq 6, 3) := by decide +kernel
theorem dX7_pairs_64 : decode cX7_pairs 64 = .ok (.iinc 2 1, 3) := by decide +kernel
theorem dX7_pairs_67 : decode cX7_pairs 67 = .ok (.iinc 4 1, 3) := by decide +kernel
theorem dX7_pairs_70 : decode cX7_pairs 70 = .ok (.goto (-35), 3) := by decide +kernel
theorem dX7_pairs_73 : decode cX7_pairs 73 = .ok (.iinc 3 1, 3) := by decide +kernel
theorem dX7_pairs_76 : decode cX7_pairs 76 = .ok (.goto (-52), 3) := by decide +kernel
theorem dX7_pairs_79 : decode cX7_pairs 79 = .ok (.iload_n 2, 1) := by decide +kernel
theorem dX7_pairs_80 : decode cX7_pairs 80 = .ok (.ireturn, 1) := by decide +kernel
theorem dX7_far_0 : decode cX7_far 0 = .ok (.iload_n 1, 1) := by decide +kernel
theorem dX7_far_1 : decode cX7_far 1 = .ok (.i2l, 1) := by decide +kernel
theorem dX7_far_2 : decode cX7_far 2 = .ok (.lconst 0, 1) := by decide +kernel
theorem dX7_far_3 : decode cX7_far 3 = .ok (.ldc2_w 193, 3) := by decide +kernel
theorem dX7_far_6 : decode cX7_far 6 = .ok (.invokestatic 85, 3) := by decide +kernel
theorem dX7_far_9 : decode cX7_far 9 = .ok (.ifCond .ne 5, 3) := by decide +kernel
theorem dX7_far_12 : decode cX7_far 12 = .ok (.iconst (-1), 1) := by decide +kernel
theorem dX7_far_13 : decode cX7_far 13 = .ok (.ireturn, 1) := by decide +kernel
theorem dX7_far_14 : decode cX7_far 14 = .ok (.aload_n 0, 1) := by decide +kernel
theorem dX7_far_15 : decode cX7_far 15 = .ok (.aload_n 0, 1) := by decide +kernel
theorem dX7_far_16 : decode cX7_far 16 = .ok (.getfield 118, 3) := by decide +kernel
theorem dX7_far_19 : decode cX7_far 19 = .ok (.iconst 0, 1) := by decide +kernel
theorem dX7_far_20 : decode cX7_far 20 = .ok (.invokevirtual 176, 3) := by decide +kernel
theorem dX7_far_23 : decode cX7_far 23 = .ok (.iconst 0, 1) := by decide +kernel
theorem dX7_far_24 : decode cX7_far 24 = .ok (.istore_n 2, 1) := by decide +kernel
theorem dX7_far_25 : decode cX7_far 25 = .ok (.iconst 0, 1) := by decide +kernel
theorem dX7_far_26 : decode cX7_far 26 = .ok (.istore_n 3, 1) := by decide +kernel
theorem dX7_far_27 : decode cX7_far 27 = .ok (.iconst (-1), 1) := by decide +kernel
theorem dX7_far_28 : decode cX7_far 28 = .ok (.istore 4, 2) := by decide +kernel
theorem dX7_far_30 : decode cX7_far 30 = .ok (.iconst 0, 1) := by decide +kernel
theorem dX7_far_31 : decode cX7_far 31 = .ok (.istore 5, 2) := by decide +kernel
theorem dX7_far_33 : decode cX7_far 33 = .ok (.iload 5, 2) := by decide +kernel
theorem dX7_far_35 : decode cX7_far 35 = .ok (.aload_n 0, 1) := by decide +kernel
theorem dX7_far_36 : decode cX7_far 36 = .ok (.getfield 92, 3) := by decide +kernel
theorem dX7_far_39 : decode cX7_far 39 = .ok (.if_icmp .ge 57, 3) := by decide +kernel
theorem dX7_far_42 : decode cX7_far 42 = .ok (.aload_n 0, 1) := by decide +kernel
theorem dX7_far_43 : decode cX7_far 43 = .ok (.getfield 62, 3) := by decide +kernel
theorem dX7_far_46 : decode cX7_far 46 = .ok (.iload 5, 2) := by decide +kernel
theorem dX7_far_48 : decode cX7_far 48 = .ok (.iaload, 1) := by decide +kernel
theorem dX7_far_49 : decode cX7_far 49 = .ok (.iload_n 2, 1) := by decide +kernel
theorem dX7_far_50 : decode cX7_far 50 = .ok (.if_icmp .ge 6, 3) := by decide +kernel
theorem dX7_far_53 : decode cX7_far 53 = .ok (.goto 37, 3) := by decide +kernel
theorem dX7_far_56 : decode cX7_far 56 = .ok (.aload_n 0, 1) := by decide +kernel
theorem dX7_far_57 : decode cX7_far 57 = .ok (.getfield 62, 3) := by decide +kernel
theorem dX7_far_60 : decode cX7_far 60 = .ok (.iload 5, 2) := by decide +kernel
theorem dX7_far_62 : decode cX7_far 62 = .ok (.iaload, 1) := by decide +kernel
theorem dX7_far_63 : decode cX7_far 63 = .ok (.iload_n 2, 1) := by decide +kernel
theorem dX7_far_64 : decode cX7_far 64 = .ok (.if_icmp .gt 9, 3) := by decide +kernel
theorem dX7_far_67 : decode cX7_far 67 = .ok (.iload 4, 2) := by decide +kernel
theorem dX7_far_69 : decode cX7_far 69 = .ok (.iconst (-1), 1) := by decide +kernel
theorem dX7_far_70 : decode cX7_far 70 = .ok (.if_icmp .ne 17, 3) := by decide +kernel
theorem dX7_far_73 : decode cX7_far 73 = .ok (.aload_n 0, 1) := by decide +kernel
theorem dX7_far_74 : decode cX7_far 74 = .ok (.getfield 62, 3) := by decide +kernel
theorem dX7_far_77 : decode cX7_far 77 = .ok (.iload 5, 2) := by decide +kernel
theorem dX7_far_79 : decode cX7_far 79 = .ok (.iaload, 1) := by decide +kernel
theorem dX7_far_80 : decode cX7_far 80 = .ok (.istore_n 2, 1) := by decide +kernel
theorem dX7_far_81 : decode cX7_far 81 = .ok (.iconst 0, 1) := by decide +kernel
theorem dX7_far_82 : decode cX7_far 82 = .ok (.istore_n 3, 1) := by decide +kernel
theorem dX7_far_83 : decode cX7_far 83 = .ok (.iload 5, 2) := by decide +kernel
theorem dX7_far_85 : decode cX7_far 85 = .ok (.istore 4, 2) := by decide +kernel
theorem dX7_far_87 : decode cX7_far 87 = .ok (.iinc 3 1, 3) := by decide +kernel
theorem dX7_far_90 : decode cX7_far 90 = .ok (.iinc 5 1, 3) := by decide +kernel
theorem dX7_far_93 : decode cX7_far 93 = .ok (.goto (-60), 3) := by decide +kernel
theorem dX7_far_96 : decode cX7_far 96 = .ok (.iload_n 1, 1) := by decide +kernel
theorem dX7_far_97 : decode cX7_far 97 = .ok (.ifCond .ne 7, 3) := by decide +kernel
theorem dX7_far_100 : decode cX7_far 100 = .ok (.iload_n 2, 1) := by decide +kernel
theorem dX7_far_101 : decode cX7_far 101 = .ok (.goto 14, 3) := by decide +kernel
theorem dX7_far_104 : decode cX7_far 104 = .ok (.iload_n 1, 1) := by decide +kernel
theorem dX7_far_105 : decode cX7_far 105 = .ok (.iconst 1, 1) := by decide +kernel
theorem dX7_far_106 : decode cX7_far 106 = .ok (.if_icmp .ne 7, 3) := by decide +kernel
theorem dX7_far_109 : decode cX7_far 109 = .ok (.iload_n 3, 1) := by decide +kernel
theorem dX7_far_110 : decode cX7_far 110 = .ok (.goto 5, 3) := by decide +kernel
theorem dX7_far_113 : decode cX7_far 113 = .ok (.iload 4, 2) := by decide +kernel
theorem dX7_far_115 : decode cX7_far 115 = .ok (.ireturn, 1) := by decide +kernel
theorem dX7_canopyOf_0 : decode cX7_canopyOf 0 = .ok (.iconst 0, 1) := by decide +kernel
theorem dX7_canopyOf_1 : decode cX7_canopyOf 1 = .ok (.istore_n 2, 1) := by decide +kernel
theorem dX7_canopyOf_2 : decode cX7_canopyOf 2 = .ok (.iconst 0, 1) := by decide +kernel
theorem dX7_canopyOf_3 : decode cX7_canopyOf 3 = .ok (.istore_n 3, 1) := by decide +kernel
theorem dX7_canopyOf_4 : decode cX7_canopyOf 4 = .ok (.iload_n 3, 1) := by decide +kernel
theorem dX7_canopyOf_5 : decode cX7_canopyOf 5 = .ok (.iload_n 1, 1) := by decide +kernel
theorem dX7_canopyOf_6 : decode cX7_canopyOf 6 = .ok (.iconst 1, 1) := by decide +kernel
theorem dX7_canopyOf_7 : decode cX7_canopyOf 7 = .ok (.isub, 1) := by decide +kernel
theorem dX7_canopyOf_8 : decode cX7_canopyOf 8 = .ok (.if_icmp .ge 24, 3) := by decide +kernel
theorem dX7_canopyOf_11 : decode cX7_canopyOf 11 = .ok (.iload_n 0, 1) := by decide +kernel
theorem dX7_canopyOf_12 : decode cX7_canopyOf 12 = .ok (.iload_n 1, 1) := by decide +kernel
theorem dX7_canopyOf_13 : decode cX7_canopyOf 13 = .ok (.iload_n 3, 1) := by decide +kernel
theorem dX7_canopyOf_14 : decode cX7_canopyOf 14 = .ok (.invokestatic 81, 3) := by decide +kernel
theorem dX7_canopyOf_17 : decode cX7_canopyOf 17 = .ok (.ifCond .le 9, 3) := by decide +kernel
theorem dX7_canopyOf_20 : decode cX7_canopyOf 20 = .ok (.iload_n 2, 1) := by decide +kernel
theorem dX7_canopyOf_21 : decode cX7_canopyOf 21 = .ok (.iconst 1, 1) := by decide +kernel
theorem dX7_canopyOf_22 : decode cX7_canopyOf 22 = .ok (.iload_n 3, 1) := by decide +kernel
theorem dX7_canopyOf_23 : decode cX7_canopyOf 23 = .ok (.ishl, 1) := by decide +kernel
theorem dX7_canopyOf_24 : decode cX7_canopyOf 24 = .ok (.ior, 1) := by decide +kernel
theorem dX7_canopyOf_25 : decode cX7_canopyOf 25 = .ok (.istore_n 2, 1) := by decide +kernel
theorem dX7_canopyOf_26 : decode cX7_canopyOf 26 = .ok (.iinc 3 1, 3) := by decide +kernel
theorem dX7_canopyOf_29 : decode cX7_canopyOf 29 = .ok (.goto (-25), 3) := by decide +kernel
theorem dX7_canopyOf_32 : decode cX7_canopyOf 32 = .ok (.iload_n 2, 1) := by decide +kernel
theorem dX7_canopyOf_33 : decode cX7_canopyOf 33 = .ok (.ireturn, 1) := by decide +kernel
theorem dX7_canopy_0 : decode cX7_canopy 0 = .ok (.aload_n 0, 1) := by decide +kernel
theorem dX7_canopy_1 : decode cX7_canopy 1 = .ok (.getfield 118, 3) := by decide +kernel
theorem dX7_canopy_4 : decode cX7_canopy 4 = .ok (.aload_n 0, 1) := by decide +kernel
theorem dX7_canopy_5 : decode cX7_canopy 5 = .ok (.getfield 9, 3) := by decide +kernel
theorem dX7_canopy_8 : decode cX7_canopy 8 = .ok (.invokestatic 195, 3) := by decide +kernel
theorem dX7_canopy_11 : decode cX7_canopy 11 = .ok (.ireturn, 1) := by decide +kernel
theorem dX7_inClass_0 : decode cX7_inClass 0 = .ok (.iload_n 1, 1) := by decide +kernel
theorem dX7_inClass_1 : decode cX7_inClass 1 = .ok (.i2l, 1) := by decide +kernel
theorem dX7_inClass_2 : decode cX7_inClass 2 = .ok (.lconst 0, 1) := by decide +kernel
theorem dX7_inClass_3 : decode cX7_inClass 3 = .ok (.iconst 1, 1) := by decide +kernel
theorem dX7_inClass_4 : decode cX7_inClass 4 = .ok (.aload_n 0, 1) := by decide +kernel
theorem dX7_inClass_5 : decode cX7_inClass 5 = .ok (.getfield 9, 3) := by decide +kernel
theorem dX7_inClass_8 : decode cX7_inClass 8 = .ok (.iconst 1, 1) := by decide +kernel
theorem dX7_inClass_9 : decode cX7_inClass 9 = .ok (.isub, 1) := by decide +kernel
theorem dX7_inClass_10 : decode cX7_inClass 10 = .ok (.ishl, 1) := by decide +kernel
theorem dX7_inClass_11 : decode cX7_inClass 11 = .ok (.iconst 1, 1) := by decide +kernel
theorem dX7_inClass_12 : decode cX7_inClass 12 = .ok (.isub, 1) := by decide +kernel
theorem dX7_inClass_13 : decode cX7_inClass 13 = .ok (.i2l, 1) := by decide +kernel
theorem dX7_inClass_14 : decode cX7_inClass 14 = .ok (.invokestatic 85, 3) := by decide +kernel
theorem dX7_inClass_17 : decode cX7_inClass 17 = .ok (.ifCond .ne 6, 3) := by decide +kernel
theorem dX7_inClass_20 : decode cX7_inClass 20 = .ok (.bipush (-2), 2) := by decide +kernel
theorem dX7_inClass_22 : decode cX7_inClass 22 = .ok (.ireturn, 1) := by decide +kernel
theorem dX7_inClass_23 : decode cX7_inClass 23 = .ok (.iload_n 2, 1) := by decide +kernel
theorem dX7_inClass_24 : decode cX7_inClass 24 = .ok (.i2l, 1) := by decide +kernel
theorem dX7_inClass_25 : decode cX7_inClass 25 = .ok (.lconst 0, 1) := by decide +kernel
theorem dX7_inClass_26 : decode cX7_inClass 26 = .ok (.ldc2_w 193, 3) := by decide +kernel
theorem dX7_inClass_29 : decode cX7_inClass 29 = .ok (.invokestatic 85, 3) := by decide +kernel
theorem dX7_inClass_32 : decode cX7_inClass 32 = .ok (.ifCond .ne 5, 3) := by decide +kernel
theorem dX7_inClass_35 : decode cX7_inClass 35 = .ok (.iconst (-1), 1) := by decide +kernel
theorem dX7_inClass_36 : decode cX7_inClass 36 = .ok (.ireturn, 1) := by decide +kernel
theorem dX7_inClass_37 : decode cX7_inClass 37 = .ok (.aload_n 0, 1) := by decide +kernel
theorem dX7_inClass_38 : decode cX7_inClass 38 = .ok (.aload_n 0, 1) := by decide +kernel
theorem dX7_inClass_39 : decode cX7_inClass 39 = .ok (.getfield 9, 3) := by decide +kernel
theorem dX7_inClass_42 : decode cX7_inClass 42 = .ok (.invokevirtual 99, 3) := by decide +kernel
theorem dX7_inClass_45 : decode cX7_inClass 45 = .ok (.iconst 0, 1) := by decide +kernel
theorem dX7_inClass_46 : decode cX7_inClass 46 = .ok (.istore_n 3, 1) := by decide +kernel
theorem dX7_inClass_47 : decode cX7_inClass 47 = .ok (.iconst (-1), 1) := by decide +kernel
theorem dX7_inClass_48 : decode cX7_inClass 48 = .ok (.istore 4, 2) := by decide +kernel
theorem dX7_inClass_50 : decode cX7_inClass 50 = .ok (.iconst (-1), 1) := by decide +kernel
theorem dX7_inClass_51 : decode cX7_inClass 51 = .ok (.istore 5, 2) := by decide +kernel
theorem dX7_inClass_53 : decode cX7_inClass 53 = .ok (.iconst 0, 1) := by decide +kernel
theorem dX7_inClass_54 : decode cX7_inClass 54 = .ok (.istore 6, 2) := by decide +kernel
theorem dX7_inClass_56 : decode cX7_inClass 56 = .ok (.iload 6, 2) := by decide +kernel
theorem dX7_inClass_58 : decode cX7_inClass 58 = .ok (.aload_n 0, 1) := by decide +kernel
theorem dX7_inClass_59 : decode cX7_inClass 59 = .ok (.getfield 92, 3) := by decide +kernel
theorem dX7_inClass_62 : decode cX7_inClass 62 = .ok (.if_icmp .ge 45, 3) := by decide +kernel
theorem dX7_inClass_65 : decode cX7_inClass 65 = .ok (.aload_n 0, 1) := by decide +kernel
theorem dX7_inClass_66 : decode cX7_inClass 66 = .ok (.getfield 44, 3) := by decide +kernel
theorem dX7_inClass_69 : decode cX7_inClass 69 = .ok (.iload 6, 2) := by decide +kernel
theorem dX7_inClass_71 : decode cX7_inClass 71 = .ok (.iaload, 1) := by decide +kernel
theorem dX7_inClass_72 : decode cX7_inClass 72 = .ok (.aload_n 0, 1) := by decide +kernel
theorem dX7_inClass_73 : decode cX7_inClass 73 = .ok (.getfield 9, 3) := by decide +kernel
theorem dX7_inClass_76 : decode cX7_inClass 76 = .ok (.invokestatic 195, 3) := by decide +kernel
theorem dX7_inClass_79 : decode cX7_inClass 79 = .ok (.iload_n 1, 1) := by decide +kernel
theorem dX7_inClass_80 : decode cX7_inClass 80 = .ok (.if_icmp .eq 6, 3) := by decide +kernel
theorem dX7_inClass_83 : decode cX7_inClass 83 = .ok (.goto 18, 3) := by decide +kernel
theorem dX7_inClass_86 : decode cX7_inClass 86 = .ok (.iload_n 3, 1) := by decide +kernel
theorem dX7_inClass_87 : decode cX7_inClass 87 = .ok (.ifCond .ne 7, 3) := by decide +kernel
theorem dX7_inClass_90 : decode cX7_inClass 90 = .ok (.iload 6, 2) := by decide +kernel
theorem dX7_inClass_92 : decode cX7_inClass 92 = .ok (.istore 4, 2) := by decide +kernel
theorem dX7_inClass_94 : decode cX7_inClass 94 = .ok (.iload 6, 2) := by decide +kernel
theorem dX7_inClass_96 : decode cX7_inClass 96 = .ok (.istore 5, 2) := by decide +kernel
theorem dX7_inClass_98 : decode cX7_inClass 98 = .ok (.iinc 3 1, 3) := by decide +kernel
theorem dX7_inClass_101 : decode cX7_inClass 101 = .ok (.iinc 6 1, 3) := by decide +kernel
theorem dX7_inClass_104 : decode cX7_inClass 104 = .ok (.goto (-48), 3) := by decide +kernel
theorem dX7_inClass_107 : decode cX7_inClass 107 = .ok (.iload_n 2, 1) := by decide +kernel
theorem dX7_inClass_108 : decode cX7_inClass 108 = .ok (.ifCond .ne 7, 3) := by decide +kernel
theorem dX7_inClass_111 : decode cX7_inClass 111 = .ok (.iload_n 3, 1) := by decide +kernel
theorem dX7_inClass_112 : decode cX7_inClass 112 = .ok (.goto 15, 3) := by decide +kernel
theorem dX7_inClass_115 : decode cX7_inClass 115 = .ok (.iload_n 2, 1) := by decide +kernel
theorem dX7_inClass_116 : decode cX7_inClass 116 = .ok (.iconst 1, 1) := by decide +kernel
theorem dX7_inClass_117 : decode cX7_inClass 117 = .ok (.if_icmp .ne 8, 3) := by decide +kernel
theorem dX7_inClass_120 : decode cX7_inClass 120 = .ok (.iload 4, 2) := by decide +kernel
theorem dX7_inClass_122 : decode cX7_inClass 122 = .ok (.goto 5, 3) := by decide +kernel
theorem dX7_inClass_125 : decode cX7_inClass 125 = .ok (.iload 5, 2) := by decide +kernel
theorem dX7_inClass_127 : decode cX7_inClass 127 = .ok (.ireturn, 1) := by decide +kernel
theorem dX7_likeness_0 : decode cX7_likeness 0 = .ok (.iload_n 1, 1) := by decide +kernel
theorem dX7_likeness_1 : decode cX7_likeness 1 = .ok (.invokestatic 159, 3) := by decide +kernel
theorem dX7_likeness_4 : decode cX7_likeness 4 = .ok (.ifCond .ne 5, 3) := by decide +kernel
theorem dX7_likeness_7 : decode cX7_likeness 7 = .ok (.iconst (-1), 1) := by decide +kernel
theorem dX7_likeness_8 : decode cX7_likeness 8 = .ok (.ireturn, 1) := by decide +kernel
theorem dX7_likeness_9 : decode cX7_likeness 9 = .ok (.aload_n 0, 1) := by decide +kernel
theorem dX7_likeness_10 : decode cX7_likeness 10 = .ok (.iload_n 1, 1) := by decide +kernel
theorem dX7_likeness_11 : decode cX7_likeness 11 = .ok (.invokevirtual 162, 3) := by decide +kernel
theorem dX7_likeness_14 : decode cX7_likeness 14 = .ok (.istore_n 2, 1) := by decide +kernel
theorem dX7_likeness_15 : decode cX7_likeness 15 = .ok (.iload_n 2, 1) := by decide +kernel
theorem dX7_likeness_16 : decode cX7_likeness 16 = .ok (.ifCond .eq 7, 3) := by decide +kernel
theorem dX7_likeness_19 : decode cX7_likeness 19 = .ok (.iload_n 2, 1) := by decide +kernel
theorem dX7_likeness_20 : decode cX7_likeness 20 = .ok (.goto 24, 3) := by decide +kernel
theorem dX7_likeness_23 : decode cX7_likeness 23 = .ok (.aload_n 0, 1) := by decide +kernel
theorem dX7_likeness_24 : decode cX7_likeness 24 = .ok (.invokevirtual 198, 3) := by decide +kernel
theorem dX7_likeness_27 : decode cX7_likeness 27 = .ok (.aload_n 0, 1) := by decide +kernel
theorem dX7_likeness_28 : decode cX7_likeness 28 = .ok (.getfield 19, 3) := by decide +kernel
theorem dX7_likeness_31 : decode cX7_likeness 31 = .ok (.iload_n 1, 1) := by decide +kernel
theorem dX7_likeness_32 : decode cX7_likeness 32 = .ok (.iaload, 1) := by decide +kernel
theorem dX7_likeness_33 : decode cX7_likeness 33 = .ok (.aload_n 0, 1) := by decide +kernel
theorem dX7_likeness_34 : decode cX7_likeness 34 = .ok (.getfield 9, 3) := by decide +kernel
theorem dX7_likeness_37 : decode cX7_likeness 37 = .ok (.invokestatic 195, 3) := by decide +kernel
theorem dX7_likeness_40 : decode cX7_likeness 40 = .ok (.ixor, 1) := by decide +kernel
theorem dX7_likeness_41 : decode cX7_likeness 41 = .ok (.invokestatic 151, 3) := by decide +kernel
theorem dX7_likeness_44 : decode cX7_likeness 44 = .ok (.ireturn, 1) := by decide +kernel
theorem dX7_keep_0 : decode cX7_keep 0 = .ok (.iload_n 1, 1) := by decide +kernel
theorem dX7_keep_1 : decode cX7_keep 1 = .ok (.invokestatic 159, 3) := by decide +kernel
theorem dX7_keep_4 : decode cX7_keep 4 = .ok (.ifCond .ne 5, 3) := by decide +kernel
theorem dX7_keep_7 : decode cX7_keep 7 = .ok (.iconst (-1), 1) := by decide +kernel
theorem dX7_keep_8 : decode cX7_keep 8 = .ok (.ireturn, 1) := by decide +kernel
theorem dX7_keep_9 : decode cX7_keep 9 = .ok (.aload_n 0, 1) := by decide +kernel
theorem dX7_keep_10 : decode cX7_keep 10 = .ok (.getfield 15, 3) := by decide +kernel
theorem dX7_keep_13 : decode cX7_keep 13 = .ok (.iload_n 1, 1) := by decide +kernel
theorem dX7_keep_14 : decode cX7_keep 14 = .ok (.aload_n 0, 1) := by decide +kernel
theorem dX7_keep_15 : decode cX7_keep 15 = .ok (.getfield 9, 3) := by decide +kernel
theorem dX7_keep_18 : decode cX7_keep 18 = .ok (.iastore, 1) := by decide +kernel
theorem dX7_keep_19 : decode cX7_keep 19 = .ok (.aload_n 0, 1) := by decide +kernel
theorem dX7_keep_20 : decode cX7_keep 20 = .ok (.getfield 19, 3) := by decide +kernel
theorem dX7_keep_23 : decode cX7_keep 23 = .ok (.iload_n 1, 1) := by decide +kernel
theorem dX7_keep_24 : decode cX7_keep 24 = .ok (.aload_n 0, 1) := by decide +kernel
theorem dX7_keep_25 : decode cX7_keep 25 = .ok (.getfield 118, 3) := by decide +kernel
theorem dX7_keep_28 : decode cX7_keep 28 = .ok (.iastore, 1) := by decide +kernel
theorem dX7_keep_29 : decode cX7_keep 29 = .ok (.aload_n 0, 1) := by decide +kernel
theorem dX7_keep_30 : decode cX7_keep 30 = .ok (.invokevirtual 129, 3) := by decide +kernel
theorem dX7_keep_33 : decode cX7_keep 33 = .ok (.ireturn, 1) := by decide +kernel
theorem dX7_lay_0 : decode cX7_lay 0 = .ok (.iload_n 1, 1) := by decide +kernel
theorem dX7_lay_1 : decode cX7_lay 1 = .ok (.invokestatic 159, 3) := by decide +kernel
theorem dX7_lay_4 : decode cX7_lay 4 = .ok (.ifCond .ne 5, 3) := by decide +kernel
theorem dX7_lay_7 : decode cX7_lay 7 = .ok (.iconst (-1), 1) := by decide +kernel
theorem dX7_lay_8 : decode cX7_lay 8 = .ok (.ireturn, 1) := by decide +kernel
theorem dX7_lay_9 : decode cX7_lay 9 = .ok (.aload_n 0, 1) := by decide +kernel
theorem dX7_lay_10 : decode cX7_lay 10 = .ok (.getfield 15, 3) := by decide +kernel
theorem dX7_lay_13 : decode cX7_lay 13 = .ok (.iload_n 1, 1) := by decide +kernel
theorem dX7_lay_14 : decode cX7_lay 14 = .ok (.iaload, 1) := by decide +kernel
theorem dX7_lay_15 : decode cX7_lay 15 = .ok (.ifCond .ne 6, 3) := by decide +kernel
theorem dX7_lay_18 : decode cX7_lay 18 = .ok (.bipush (-6), 2) := by decide +kernel
theorem dX7_lay_20 : decode cX7_lay 20 = .ok (.ireturn, 1) := by decide +kernel
theorem dX7_lay_21 : decode cX7_lay 21 = .ok (.aload_n 0, 1) := by decide +kernel
theorem dX7_lay_22 : decode cX7_lay 22 = .ok (.aload_n 0, 1) := by decide +kernel
theorem dX7_lay_23 : decode cX7_lay 23 = .ok (.getfield 15, 3) := by decide +kernel
theorem dX7_lay_26 : decode cX7_lay 26 = .ok (.iload_n 1, 1) := by decide +kernel
theorem dX7_lay_27 : decode cX7_lay 27 = .ok (.iaload, 1) := by decide +kernel
theorem dX7_lay_28 : decode cX7_lay 28 = .ok (.aload_n 0, 1) := by decide +kernel
theorem dX7_lay_29 : decode cX7_lay 29 = .ok (.getfield 19, 3) := by decide +kernel
theorem dX7_lay_32 : decode cX7_lay 32 = .ok (.iload_n 1, 1) := by decide +kernel
theorem dX7_lay_33 : decode cX7_lay 33 = .ok (.iaload, 1) := by decide +kernel
theorem dX7_lay_34 : decode cX7_lay 34 = .ok (.invokevirtual 126, 3) := by decide +kernel
theorem dX7_lay_37 : decode cX7_lay 37 = .ok (.aload_n 0, 1) := by decide +kernel
theorem dX7_lay_38 : decode cX7_lay 38 = .ok (.getfield 9, 3) := by decide +kernel
theorem dX7_lay_41 : decode cX7_lay 41 = .ok (.ireturn, 1) := by decide +kernel
theorem dX7_lose_0 : decode cX7_lose 0 = .ok (.iload_n 1, 1) := by decide +kernel
theorem dX7_lose_1 : decode cX7_lose 1 = .ok (.invokestatic 159, 3) := by decide +kernel
theorem dX7_lose_4 : decode cX7_lose 4 = .ok (.ifCond .ne 5, 3) := by decide +kernel
theorem dX7_lose_7 : decode cX7_lose 7 = .ok (.iconst (-1), 1) := by decide +kernel
theorem dX7_lose_8 : decode cX7_lose 8 = .ok (.ireturn, 1) := by decide +kernel
theorem dX7_lose_9 : decode cX7_lose 9 = .ok (.aload_n 0, 1) := by decide +kernel
theorem dX7_lose_10 : decode cX7_lose 10 = .ok (.getfield 15, 3) := by decide +kernel
theorem dX7_lose_13 : decode cX7_lose 13 = .ok (.iload_n 1, 1) := by decide +kernel
theorem dX7_lose_14 : decode cX7_lose 14 = .ok (.iaload, 1) := by decide +kernel
theorem dX7_lose_15 : decode cX7_lose 15 = .ok (.ifCond .ne 6, 3) := by decide +kernel
theorem dX7_lose_18 : decode cX7_lose 18 = .ok (.bipush (-6), 2) := by decide +kernel
theorem dX7_lose_20 : decode cX7_lose 20 = .ok (.ireturn, 1) := by decide +kernel
theorem dX7_lose_21 : decode cX7_lose 21 = .ok (.aload_n 0, 1) := by decide +kernel
theorem dX7_lose_22 : decode cX7_lose 22 = .ok (.getfield 15, 3) := by decide +kernel
theorem dX7_lose_25 : decode cX7_lose 25 = .ok (.iload_n 1, 1) := by decide +kernel
theorem dX7_lose_26 : decode cX7_lose 26 = .ok (.iaload, 1) := by decide +kernel
theorem dX7_lose_27 : decode cX7_lose 27 = .ok (.istore_n 2, 1) := by decide +kernel
theorem dX7_lose_28 : decode cX7_lose 28 = .ok (.aload_n 0, 1) := by decide +kernel
theorem dX7_lose_29 : decode cX7_lose 29 = .ok (.getfield 15, 3) := by decide +kernel
theorem dX7_lose_32 : decode cX7_lose 32 = .ok (.iload_n 1, 1) := by decide +kernel
theorem dX7_lose_33 : decode cX7_lose 33 = .ok (.iconst 0, 1) := by decide +kernel
theorem dX7_lose_34 : decode cX7_lose 34 = .ok (.iastore, 1) := by decide +kernel
theorem dX7_lose_35 : decode cX7_lose 35 = .ok (.iload_n 2, 1) := by decide +kernel
theorem dX7_lose_36 : decode cX7_lose 36 = .ok (.ireturn, 1) := by decide +kernel
theorem dX7_over_0 : decode cX7_over 0 = .ok (.iload_n 1, 1) := by decide +kernel
theorem dX7_over_1 : decode cX7_over 1 = .ok (.invokestatic 159, 3) := by decide +kernel
theorem dX7_over_4 : decode cX7_over 4 = .ok (.ifCond .ne 5, 3) := by decide +kernel
theorem dX7_over_7 : decode cX7_over 7 = .ok (.iconst (-1), 1) := by decide +kernel
theorem dX7_over_8 : decode cX7_over 8 = .ok (.ireturn, 1) := by decide +kernel
theorem dX7_over_9 : decode cX7_over 9 = .ok (.aload_n 0, 1) := by decide +kernel
theorem dX7_over_10 : decode cX7_over 10 = .ok (.getfield 15, 3) := by decide +kernel
theorem dX7_over_13 : decode cX7_over 13 = .ok (.iload_n 1, 1) := by decide +kernel
theorem dX7_over_14 : decode cX7_over 14 = .ok (.iaload, 1) := by decide +kernel
theorem dX7_over_15 : decode cX7_over 15 = .ok (.ifCond .ne 6, 3) := by decide +kernel
theorem dX7_over_18 : decode cX7_over 18 = .ok (.bipush (-6), 2) := by decide +kernel
theorem dX7_over_20 : decode cX7_over 20 = .ok (.ireturn, 1) := by decide +kernel
theorem dX7_over_21 : decode cX7_over 21 = .ok (.aload_n 0, 1) := by decide +kernel
theorem dX7_over_22 : decode cX7_over 22 = .ok (.getfield 15, 3) := by decide +kernel
theorem dX7_over_25 : decode cX7_over 25 = .ok (.iload_n 1, 1) := by decide +kernel
theorem dX7_over_26 : decode cX7_over 26 = .ok (.iaload, 1) := by decide +kernel
theorem dX7_over_27 : decode cX7_over 27 = .ok (.aload_n 0, 1) := by decide +kernel
theorem dX7_over_28 : decode cX7_over 28 = .ok (.getfield 9, 3) := by decide +kernel
theorem dX7_over_31 : decode cX7_over 31 = .ok (.iadd, 1) := by decide +kernel
theorem dX7_over_32 : decode cX7_over 32 = .ok (.bipush 7, 2) := by decide +kernel
theorem dX7_over_34 : decode cX7_over 34 = .ok (.if_icmp .le 6, 3) := by decide +kernel
theorem dX7_over_37 : decode cX7_over 37 = .ok (.bipush (-4), 2) := by decide +kernel
theorem dX7_over_39 : decode cX7_over 39 = .ok (.ireturn, 1) := by decide +kernel
theorem dX7_over_40 : decode cX7_over 40 = .ok (.aload_n 0, 1) := by decide +kernel
theorem dX7_over_41 : decode cX7_over 41 = .ok (.aload_n 0, 1) := by decide +kernel
theorem dX7_over_42 : decode cX7_over 42 = .ok (.getfield 15, 3) := by decide +kernel
theorem dX7_over_45 : decode cX7_over 45 = .ok (.iload_n 1, 1) := by decide +kernel
theorem dX7_over_46 : decode cX7_over 46 = .ok (.iaload, 1) := by decide +kernel
theorem dX7_over_47 : decode cX7_over 47 = .ok (.aload_n 0, 1) := by decide +kernel
theorem dX7_over_48 : decode cX7_over 48 = .ok (.getfield 9, 3) := by decide +kernel
theorem dX7_over_51 : decode cX7_over 51 = .ok (.iadd, 1) := by decide +kernel
theorem dX7_over_52 : decode cX7_over 52 = .ok (.aload_n 0, 1) := by decide +kernel
theorem dX7_over_53 : decode cX7_over 53 = .ok (.getfield 19, 3) := by decide +kernel
theorem dX7_over_56 : decode cX7_over 56 = .ok (.iload_n 1, 1) := by decide +kernel
theorem dX7_over_57 : decode cX7_over 57 = .ok (.iaload, 1) := by decide +kernel
theorem dX7_over_58 : decode cX7_over 58 = .ok (.aload_n 0, 1) := by decide +kernel
theorem dX7_over_59 : decode cX7_over 59 = .ok (.getfield 9, 3) := by decide +kernel
theorem dX7_over_62 : decode cX7_over 62 = .ok (.invokestatic 77, 3) := by decide +kernel
theorem dX7_over_65 : decode cX7_over 65 = .ok (.imul, 1) := by decide +kernel
theorem dX7_over_66 : decode cX7_over 66 = .ok (.aload_n 0, 1) := by decide +kernel
theorem dX7_over_67 : decode cX7_over 67 = .ok (.getfield 118, 3) := by decide +kernel
theorem dX7_over_70 : decode cX7_over 70 = .ok (.iadd, 1) := by decide +kernel
theorem dX7_over_71 : decode cX7_over 71 = .ok (.invokevirtual 126, 3) := by decide +kernel
theorem dX7_over_74 : decode cX7_over 74 = .ok (.aload_n 0, 1) := by decide +kernel
theorem dX7_over_75 : decode cX7_over 75 = .ok (.getfield 9, 3) := by decide +kernel
theorem dX7_over_78 : decode cX7_over 78 = .ok (.ireturn, 1) := by decide +kernel
theorem dX7_under_0 : decode cX7_under 0 = .ok (.iload_n 1, 1) := by decide +kernel
theorem dX7_under_1 : decode cX7_under 1 = .ok (.invokestatic 159, 3) := by decide +kernel
theorem dX7_under_4 : decode cX7_under 4 = .ok (.ifCond .ne 5, 3) := by decide +kernel
theorem dX7_under_7 : decode cX7_under 7 = .ok (.iconst (-1), 1) := by decide +kernel
theorem dX7_under_8 : decode cX7_under 8 = .ok (.ireturn, 1) := by decide +kernel
theorem dX7_under_9 : decode cX7_under 9 = .ok (.aload_n 0, 1) := by decide +kernel
theorem dX7_under_10 : decode cX7_under 10 = .ok (.getfield 15, 3) := by decide +kernel
theorem dX7_under_13 : decode cX7_under 13 = .ok (.iload_n 1, 1) := by decide +kernel
theorem dX7_under_14 : decode cX7_under 14 = .ok (.iaload, 1) := by decide +kernel
theorem dX7_under_15 : decode cX7_under 15 = .ok (.istore_n 2, 1) := by decide +kernel
theorem dX7_under_16 : decode cX7_under 16 = .ok (.iload_n 2, 1) := by decide +kernel
theorem dX7_under_17 : decode cX7_under 17 = .ok (.ifCond .ne 6, 3) := by decide +kernel
theorem dX7_under_20 : decode cX7_under 20 = .ok (.bipush (-6), 2) := by decide +kernel
theorem dX7_under_22 : decode cX7_under 22 = .ok (.ireturn, 1) := by decide +kernel
theorem dX7_under_23 : decode cX7_under 23 = .ok (.iload_n 2, 1) := by decide +kernel
theorem dX7_under_24 : decode cX7_under 24 = .ok (.aload_n 0, 1) := by decide +kernel
theorem dX7_under_25 : decode cX7_under 25 = .ok (.getfield 9, 3) := by decide +kernel
theorem dX7_under_28 : decode cX7_under 28 = .ok (.iadd, 1) := by decide +kernel
theorem dX7_under_29 : decode cX7_under 29 = .ok (.bipush 7, 2) := by decide +kernel
theorem dX7_under_31 : decode cX7_under 31 = .ok (.if_icmp .le 6, 3) := by decide +kernel
theorem dX7_under_34 : decode cX7_under 34 = .ok (.bipush (-4), 2) := by decide +kernel
theorem dX7_under_36 : decode cX7_under 36 = .ok (.ireturn, 1) := by decide +kernel
theorem dX7_under_37 : decode cX7_under 37 = .ok (.aload_n 0, 1) := by decide +kernel
theorem dX7_under_38 : decode cX7_under 38 = .ok (.getfield 118, 3) := by decide +kernel
theorem dX7_under_41 : decode cX7_under 41 = .ok (.istore_n 3, 1) := by decide +kernel
theorem dX7_under_42 : decode cX7_under 42 = .ok (.iconst 0, 1) := by decide +kernel
theorem dX7_under_43 : decode cX7_under 43 = .ok (.istore 4, 2) := by decide +kernel
theorem dX7_under_45 : decode cX7_under 45 = .ok (.iload 4, 2) := by decide +kernel
theorem dX7_under_47 : decode cX7_under 47 = .ok (.aload_n 0, 1) := by decide +kernel
theorem dX7_under_48 : decode cX7_under 48 = .ok (.getfield 9, 3) := by decide +kernel
theorem dX7_under_51 : decode cX7_under 51 = .ok (.if_icmp .ge 60, 3) := by decide +kernel
theorem dX7_under_54 : decode cX7_under 54 = .ok (.iload 4, 2) := by decide +kernel
theorem dX7_under_56 : decode cX7_under 56 = .ok (.aload_n 0, 1) := by decide +kernel
theorem dX7_under_57 : decode cX7_under 57 = .ok (.getfield 118, 3) := by decide +kernel
theorem dX7_under_60 : decode cX7_under 60 = .ok (.aload_n 0, 1) := by decide +kernel
theorem dX7_under_61 : decode cX7_under 61 = .ok (.getfield 9, 3) := by decide +kernel
theorem dX7_under_64 : decode cX7_under 64 = .ok (.iload 4, 2) := by decide +kernel
theorem dX7_under_66 : decode cX7_under 66 = .ok (.invokestatic 81, 3) := by decide +kernel
theorem dX7_under_69 : decode cX7_under 69 = .ok (.iadd, 1) := by decide +kernel
theorem dX7_under_70 : decode cX7_under 70 = .ok (.aload_n 0, 1) := by decide +kernel
theorem dX7_under_71 : decode cX7_under 71 = .ok (.getfield 9, 3) := by decide +kernel
theorem dX7_under_74 : decode cX7_under 74 = .ok (.iconst 1, 1) := by decide +kernel
theorem dX7_under_75 : decode cX7_under 75 = .ok (.isub, 1) := by decide +kernel
theorem dX7_under_76 : decode cX7_under 76 = .ok (.if_icmp .ne 29, 3) := by decide +kernel
theorem dX7_under_79 : decode cX7_under 79 = .ok (.iload_n 3, 1) := by decide +kernel
theorem dX7_under_80 : decode cX7_under 80 = .ok (.aload_n 0, 1) := by decide +kernel
theorem dX7_under_81 : decode cX7_under 81 = .ok (.getfield 9, 3) := by decide +kernel
theorem dX7_under_84 : decode cX7_under 84 = .ok (.iload 4, 2) := by decide +kernel
theorem dX7_under_86 : decode cX7_under 86 = .ok (.aload_n 0, 1) := by decide +kernel
theorem dX7_under_87 : decode cX7_under 87 = .ok (.getfield 118, 3) := by decide +kernel
theorem dX7_under_90 : decode cX7_under 90 = .ok (.aload_n 0, 1) := by decide +kernel
theorem dX7_under_91 : decode cX7_under 91 = .ok (.getfield 9, 3) := by decide +kernel
theorem dX7_under_94 : decode cX7_under 94 = .ok (.iload 4, 2) := by decide +kernel
theorem dX7_under_96 : decode cX7_under 96 = .ok (.invokestatic 81, 3) := by decide +kernel
theorem dX7_under_99 : decode cX7_under 99 = .ok (.iload_n 2, 1) := by decide +kernel
theorem dX7_under_100 : decode cX7_under 100 = .ok (.iadd, 1) := by decide +kernel
theorem dX7_under_101 : decode cX7_under 101 = .ok (.invokestatic 114, 3) := by decide +kernel
theorem dX7_under_104 : decode cX7_under 104 = .ok (.istore_n 3, 1) := by decide +kernel
theorem dX7_under_105 : decode cX7_under 105 = .ok (.iinc 4 1, 3) := by decide +kernel
theorem dX7_under_108 : decode cX7_under 108 = .ok (.goto (-63), 3) := by decide +kernel
theorem dX7_under_111 : decode cX7_under 111 = .ok (.aload_n 0, 1) := by decide +kernel
theorem dX7_under_112 : decode cX7_under 112 = .ok (.aload_n 0, 1) := by decide +kernel
theorem dX7_under_113 : decode cX7_under 113 = .ok (.getfield 9, 3) := by decide +kernel
theorem dX7_under_116 : decode cX7_under 116 = .ok (.iload_n 2, 1) := by decide +kernel
theorem dX7_under_117 : decode cX7_under 117 = .ok (.iadd, 1) := by decide +kernel
theorem dX7_under_118 : decode cX7_under 118 = .ok (.iload_n 3, 1) := by decide +kernel
theorem dX7_under_119 : decode cX7_under 119 = .ok (.iload_n 2, 1) := by decide +kernel
theorem dX7_under_120 : decode cX7_under 120 = .ok (.invokestatic 77, 3) := by decide +kernel
theorem dX7_under_123 : decode cX7_under 123 = .ok (.imul, 1) := by decide +kernel
theorem dX7_under_124 : decode cX7_under 124 = .ok (.aload_n 0, 1) := by decide +kernel
theorem dX7_under_125 : decode cX7_under 125 = .ok (.getfield 19, 3) := by decide +kernel
theorem dX7_under_128 : decode cX7_under 128 = .ok (.iload_n 1, 1) := by decide +kernel
theorem dX7_under_129 : decode cX7_under 129 = .ok (.iaload, 1) := by decide +kernel
theorem dX7_under_130 : decode cX7_under 130 = .ok (.iadd, 1) := by decide +kernel
theorem dX7_under_131 : decode cX7_under 131 = .ok (.invokevirtual 126, 3) := by decide +kernel
theorem dX7_under_134 : decode cX7_under 134 = .ok (.aload_n 0, 1) := by decide +kernel
theorem dX7_under_135 : decode cX7_under 135 = .ok (.getfield 9, 3) := by decide +kernel
theorem dX7_under_138 : decode cX7_under 138 = .ok (.ireturn, 1) := by decide +kernel
theorem dX7_shelf_0 : decode cX7_shelf 0 = .ok (.iload_n 1, 1) := by decide +kernel
theorem dX7_shelf_1 : decode cX7_shelf 1 = .ok (.invokestatic 159, 3) := by decide +kernel
theorem dX7_shelf_4 : decode cX7_shelf 4 = .ok (.ifCond .eq 15, 3) := by decide +kernel
theorem dX7_shelf_7 : decode cX7_shelf 7 = .ok (.iload_n 2, 1) := by decide +kernel
theorem dX7_shelf_8 : decode cX7_shelf 8 = .ok (.i2l, 1) := by decide +kernel
theorem dX7_shelf_9 : decode cX7_shelf 9 = .ok (.lconst 0, 1) := by decide +kernel
theorem dX7_shelf_10 : decode cX7_shelf 10 = .ok (.ldc2_w 193, 3) := by decide +kernel
theorem dX7_shelf_13 : decode cX7_shelf 13 = .ok (.invokestatic 85, 3) := by decide +kernel
theorem dX7_shelf_16 : decode cX7_shelf 16 = .ok (.ifCond .ne 5, 3) := by decide +kernel
theorem dX7_shelf_19 : decode cX7_shelf 19 = .ok (.iconst (-1), 1) := by decide +kernel
theorem dX7_shelf_20 : decode cX7_shelf 20 = .ok (.ireturn, 1) := by decide +kernel
theorem dX7_shelf_21 : decode cX7_shelf 21 = .ok (.aload_n 0, 1) := by decide +kernel
theorem dX7_shelf_22 : decode cX7_shelf 22 = .ok (.getfield 15, 3) := by decide +kernel
theorem dX7_shelf_25 : decode cX7_shelf 25 = .ok (.iload_n 1, 1) := by decide +kernel
theorem dX7_shelf_26 : decode cX7_shelf 26 = .ok (.iaload, 1) := by decide +kernel
theorem dX7_shelf_27 : decode cX7_shelf 27 = .ok (.ifCond .ne 6, 3) := by decide +kernel
theorem dX7_shelf_30 : decode cX7_shelf 30 = .ok (.bipush (-6), 2) := by decide +kernel
theorem dX7_shelf_32 : decode cX7_shelf 32 = .ok (.ireturn, 1) := by decide +kernel
theorem dX7_shelf_33 : decode cX7_shelf 33 = .ok (.iload_n 2, 1) := by decide +kernel
theorem dX7_shelf_34 : decode cX7_shelf 34 = .ok (.ifCond .ne 12, 3) := by decide +kernel
theorem dX7_shelf_37 : decode cX7_shelf 37 = .ok (.aload_n 0, 1) := by decide +kernel
theorem dX7_shelf_38 : decode cX7_shelf 38 = .ok (.getfield 15, 3) := by decide +kernel
theorem dX7_shelf_41 : decode cX7_shelf 41 = .ok (.iload_n 1, 1) := by decide +kernel
theorem dX7_shelf_42 : decode cX7_shelf 42 = .ok (.iaload, 1) := by decide +kernel
theorem dX7_shelf_43 : decode cX7_shelf 43 = .ok (.goto 33, 3) := by decide +kernel
theorem dX7_shelf_46 : decode cX7_shelf 46 = .ok (.iload_n 2, 1) := by decide +kernel
theorem dX7_shelf_47 : decode cX7_shelf 47 = .ok (.iconst 1, 1) := by decide +kernel
theorem dX7_shelf_48 : decode cX7_shelf 48 = .ok (.if_icmp .ne 22, 3) := by decide +kernel
theorem dX7_shelf_51 : decode cX7_shelf 51 = .ok (.aload_n 0, 1) := by decide +kernel
theorem dX7_shelf_52 : decode cX7_shelf 52 = .ok (.aload_n 0, 1) := by decide +kernel
theorem dX7_shelf_53 : decode cX7_shelf 53 = .ok (.getfield 19, 3) := by decide +kernel
theorem dX7_shelf_56 : decode cX7_shelf 56 = .ok (.iload_n 1, 1) := by decide +kernel
theorem dX7_shelf_57 : decode cX7_shelf 57 = .ok (.iaload, 1) := by decide +kernel
theorem dX7_shelf_58 : decode cX7_shelf 58 = .ok (.aload_n 0, 1) := by decide +kernel
theorem dX7_shelf_59 : decode cX7_shelf 59 = .ok (.getfield 15, 3) := by decide +kernel
theorem dX7_shelf_62 : decode cX7_shelf 62 = .ok (.iload_n 1, 1) := by decide +kernel
theorem dX7_shelf_63 : decode cX7_shelf 63 = .ok (.iaload, 1) := by decide +kernel
theorem dX7_shelf_64 : decode cX7_shelf 64 = .ok (.invokevirtual 139, 3) := by decide +kernel
theorem dX7_shelf_67 : decode cX7_shelf 67 = .ok (.goto 9, 3) := by decide +kernel
theorem dX7_shelf_70 : decode cX7_shelf 70 = .ok (.aload_n 0, 1) := by decide +kernel
theorem dX7_shelf_71 : decode cX7_shelf 71 = .ok (.getfield 19, 3) := by decide +kernel
theorem dX7_shelf_74 : decode cX7_shelf 74 = .ok (.iload_n 1, 1) := by decide +kernel
theorem dX7_shelf_75 : decode cX7_shelf 75 = .ok (.iaload, 1) := by decide +kernel
theorem dX7_shelf_76 : decode cX7_shelf 76 = .ok (.ireturn, 1) := by decide +kernel
theorem dX7_isList_0 : decode cX7_isList 0 = .ok (.iload_n 0, 1) := by decide +kernel
theorem dX7_isList_1 : decode cX7_isList 1 = .ok (.i2l, 1) := by decide +kernel
theorem dX7_isList_2 : decode cX7_isList 2 = .ok (.lconst 0, 1) := by decide +kernel
theorem dX7_isList_3 : decode cX7_isList 3 = .ok (.ldc2_w 193, 3) := by decide +kernel
theorem dX7_isList_6 : decode cX7_isList 6 = .ok (.invokestatic 85, 3) := by decide +kernel
theorem dX7_isList_9 : decode cX7_isList 9 = .ok (.ireturn, 1) := by decide +kernel
theorem dX7_makes_0 : decode cX7_makes 0 = .ok (.aload_n 0, 1) := by decide +kernel
theorem dX7_makes_1 : decode cX7_makes 1 = .ok (.getfield 32, 3) := by decide +kernel
theorem dX7_makes_4 : decode cX7_makes 4 = .ok (.iload_n 1, 1) := by decide +kernel
theorem dX7_makes_5 : decode cX7_makes 5 = .ok (.iload_n 2, 1) := by decide +kernel
theorem dX7_makes_6 : decode cX7_makes 6 = .ok (.iastore, 1) := by decide +kernel
theorem dX7_makes_7 : decode cX7_makes 7 = .ok (.iconst 0, 1) := by decide +kernel
theorem dX7_makes_8 : decode cX7_makes 8 = .ok (.istore_n 3, 1) := by decide +kernel
theorem dX7_makes_9 : decode cX7_makes 9 = .ok (.iload_n 3, 1) := by decide +kernel
theorem dX7_makes_10 : decode cX7_makes 10 = .ok (.bipush 20, 2) := by decide +kernel
theorem dX7_makes_12 : decode cX7_makes 12 = .ok (.if_icmp .ge 21, 3) := by decide +kernel
theorem dX7_makes_15 : decode cX7_makes 15 = .ok (.aload_n 0, 1) := by decide +kernel
theorem dX7_makes_16 : decode cX7_makes 16 = .ok (.getfield 28, 3) := by decide +kernel
theorem dX7_makes_19 : decode cX7_makes 19 = .ok (.bipush 20, 2) := by decide +kernel
theorem dX7_makes_21 : decode cX7_makes 21 = .ok (.iload_n 1, 1) := by decide +kernel
theorem dX7_makes_22 : decode cX7_makes 22 = .ok (.imul, 1) := by decide +kernel
theorem dX7_makes_23 : decode cX7_makes 23 = .ok (.iload_n 3, 1) := by decide +kernel
theorem dX7_makes_24 : decode cX7_makes 24 = .ok (.iadd, 1) := by decide +kernel
theorem dX7_makes_25 : decode cX7_makes 25 = .ok (.lconst 0, 1) := by decide +kernel
theorem dX7_makes_26 : decode cX7_makes 26 = .ok (.lastore, 1) := by decide +kernel
theorem dX7_makes_27 : decode cX7_makes 27 = .ok (.iinc 3 1, 3) := by decide +kernel
theorem dX7_makes_30 : decode cX7_makes 30 = .ok (.goto (-21), 3) := by decide +kernel
theorem dX7_makes_33 : decode cX7_makes 33 = .ok (.return_, 1) := by decide +kernel
theorem dX7_list_0 : decode cX7_list 0 = .ok (.iload_n 1, 1) := by decide +kernel
theorem dX7_list_1 : decode cX7_list 1 = .ok (.invokestatic 201, 3) := by decide +kernel
theorem dX7_list_4 : decode cX7_list 4 = .ok (.ifCond .ne 5, 3) := by decide +kernel
theorem dX7_list_7 : decode cX7_list 7 = .ok (.iconst (-1), 1) := by decide +kernel
theorem dX7_list_8 : decode cX7_list 8 = .ok (.ireturn, 1) := by decide +kernel
theorem dX7_list_9 : decode cX7_list 9 = .ok (.iload_n 2, 1) := by decide +kernel
theorem dX7_list_10 : decode cX7_list 10 = .ok (.bipush 20, 2) := by decide +kernel
theorem dX7_list_12 : decode cX7_list 12 = .ok (.if_icmp .le 6, 3) := by decide +kernel
theorem dX7_list_15 : decode cX7_list 15 = .ok (.bipush (-2), 2) := by decide +kernel
theorem dX7_list_17 : decode cX7_list 17 = .ok (.ireturn, 1) := by decide +kernel
theorem dX7_list_18 : decode cX7_list 18 = .ok (.iload_n 2, 1) := by decide +kernel
theorem dX7_list_19 : decode cX7_list 19 = .ok (.iconst (-1), 1) := by decide +kernel
theorem dX7_list_20 : decode cX7_list 20 = .ok (.if_icmp .ge 6, 3) := by decide +kernel
theorem dX7_list_23 : decode cX7_list 23 = .ok (.bipush (-14), 2) := by decide +kernel
theorem dX7_list_25 : decode cX7_list 25 = .ok (.ireturn, 1) := by decide +kernel
theorem dX7_list_26 : decode cX7_list 26 = .ok (.aload_n 0, 1) := by decide +kernel
theorem dX7_list_27 : decode cX7_list 27 = .ok (.iload_n 1, 1) := by decide +kernel
theorem dX7_list_28 : decode cX7_list 28 = .ok (.iload_n 2, 1) := by decide +kernel
theorem dX7_list_29 : decode cX7_list 29 = .ok (.invokevirtual 204, 3) := by decide +kernel
theorem dX7_list_32 : decode cX7_list 32 = .ok (.iconst 1, 1) := by decide +kernel
theorem dX7_list_33 : decode cX7_list 33 = .ok (.ireturn, 1) := by decide +kernel
theorem dX7_put_0 : decode cX7_put 0 = .ok (.iload_n 1, 1) := by decide +kernel
theorem dX7_put_1 : decode cX7_put 1 = .ok (.invokestatic 201, 3) := by decide +kernel
theorem dX7_put_4 : decode cX7_put 4 = .ok (.ifCond .ne 5, 3) := by decide +kernel
theorem dX7_put_7 : decode cX7_put 7 = .ok (.iconst (-1), 1) := by decide +kernel
theorem dX7_put_8 : decode cX7_put 8 = .ok (.ireturn, 1) := by decide +kernel
theorem dX7_put_9 : decode cX7_put 9 = .ok (.aload_n 0, 1) := by decide +kernel
theorem dX7_put_10 : decode cX7_put 10 = .ok (.getfield 32, 3) := by decide +kernel
theorem dX7_put_13 : decode cX7_put 13 = .ok (.iload_n 1, 1) := by decide +kernel
theorem dX7_put_14 : decode cX7_put 14 = .ok (.iaload, 1) := by decide +kernel
theorem dX7_put_15 : decode cX7_put 15 = .ok (.ifCond .ge 6, 3) := by decide +kernel
theorem dX7_put_18 : decode cX7_put 18 = .ok (.bipush (-11), 2) := by decide +kernel
theorem dX7_put_20 : decode cX7_put 20 = .ok (.ireturn, 1) := by decide +kernel
theorem dX7_put_21 : decode cX7_put 21 = .ok (.iload_n 2, 1) := by decide +kernel
theorem dX7_put_22 : decode cX7_put 22 = .ok (.i2l, 1) := by decide +kernel
theorem dX7_put_23 : decode cX7_put 23 = .ok (.lconst 0, 1) := by decide +kernel
theorem dX7_put_24 : decode cX7_put 24 = .ok (.aload_n 0, 1) := by decide +kernel
theorem dX7_put_25 : decode cX7_put 25 = .ok (.getfield 32, 3) := by decide +kernel
theorem dX7_put_28 : decode cX7_put 28 = .ok (.iload_n 1, 1) := by decide +kernel
theorem dX7_put_29 : decode cX7_put 29 = .ok (.iaload, 1) := by decide +kernel
theorem dX7_put_30 : decode cX7_put 30 = .ok (.iconst 1, 1) := by decide +kernel
theorem dX7_put_31 : decode cX7_put 31 = .ok (.isub, 1) := by decide +kernel
theorem dX7_put_32 : decode cX7_put 32 = .ok (.i2l, 1) := by decide +kernel
theorem dX7_put_33 : decode cX7_put 33 = .ok (.invokestatic 85, 3) := by decide +kernel
theorem dX7_put_36 : decode cX7_put 36 = .ok (.ifCond .ne 6, 3) := by decide +kernel
theorem dX7_put_39 : decode cX7_put 39 = .ok (.bipush (-13), 2) := by decide +kernel
theorem dX7_put_41 : decode cX7_put 41 = .ok (.ireturn, 1) := by decide +kernel
theorem dX7_put_42 : decode cX7_put 42 = .ok (.aload_n 0, 1) := by decide +kernel
theorem dX7_put_43 : decode cX7_put 43 = .ok (.getfield 28, 3) := by decide +kernel
theorem dX7_put_46 : decode cX7_put 46 = .ok (.bipush 20, 2) := by decide +kernel
theorem dX7_put_48 : decode cX7_put 48 = .ok (.iload_n 1, 1) := by decide +kernel
theorem dX7_put_49 : decode cX7_put 49 = .ok (.imul, 1) := by decide +kernel
theorem dX7_put_50 : decode cX7_put 50 = .ok (.iload_n 2, 1) := by decide +kernel
theorem dX7_put_51 : decode cX7_put 51 = .ok (.iadd, 1) := by decide +kernel
theorem dX7_put_52 : decode cX7_put 52 = .ok (.lload_n 3, 1) := by decide +kernel
theorem dX7_put_53 : decode cX7_put 53 = .ok (.lastore, 1) := by decide +kernel
theorem dX7_put_54 : decode cX7_put 54 = .ok (.iconst 1, 1) := by decide +kernel
theorem dX7_put_55 : decode cX7_put 55 = .ok (.ireturn, 1) := by decide +kernel
theorem dX7_get_0 : decode cX7_get 0 = .ok (.iload_n 1, 1) := by decide +kernel
theorem dX7_get_1 : decode cX7_get 1 = .ok (.invokestatic 201, 3) := by decide +kernel
theorem dX7_get_4 : decode cX7_get 4 = .ok (.ifCond .eq 35, 3) := by decide +kernel
theorem dX7_get_7 : decode cX7_get 7 = .ok (.iload_n 2, 1) := by decide +kernel
theorem dX7_get_8 : decode cX7_get 8 = .ok (.i2l, 1) := by decide +kernel
theorem dX7_get_9 : decode cX7_get 9 = .ok (.lconst 0, 1) := by decide +kernel
theorem dX7_get_10 : decode cX7_get 10 = .ok (.aload_n 0, 1) := by decide +kernel
theorem dX7_get_11 : decode cX7_get 11 = .ok (.getfield 32, 3) := by decide +kernel
theorem dX7_get_14 : decode cX7_get 14 = .ok (.iload_n 1, 1) := by decide +kernel
theorem dX7_get_15 : decode cX7_get 15 = .ok (.iaload, 1) := by decide +kernel
theorem dX7_get_16 : decode cX7_get 16 = .ok (.iconst 1, 1) := by decide +kernel
theorem dX7_get_17 : decode cX7_get 17 = .ok (.isub, 1) := by decide +kernel
theorem dX7_get_18 : decode cX7_get 18 = .ok (.i2l, 1) := by decide +kernel
theorem dX7_get_19 : decode cX7_get 19 = .ok (.invokestatic 85, 3) := by decide +kernel
theorem dX7_get_22 : decode cX7_get 22 = .ok (.ifCond .eq 17, 3) := by decide +kernel
theorem dX7_get_25 : decode cX7_get 25 = .ok (.aload_n 0, 1) := by decide +kernel
theorem dX7_get_26 : decode cX7_get 26 = .ok (.getfield 28, 3) := by decide +kernel
theorem dX7_get_29 : decode cX7_get 29 = .ok (.bipush 20, 2) := by decide +kernel
theorem dX7_get_31 : decode cX7_get 31 = .ok (.iload_n 1, 1) := by decide +kernel
theorem dX7_get_32 : decode cX7_get 32 = .ok (.imul, 1) := by decide +kernel
theorem dX7_get_33 : decode cX7_get 33 = .ok (.iload_n 2, 1) := by decide +kernel
theorem dX7_get_34 : decode cX7_get 34 = .ok (.iadd, 1) := by decide +kernel
theorem dX7_get_35 : decode cX7_get 35 = .ok (.laload, 1) := by decide +kernel
theorem dX7_get_36 : decode cX7_get 36 = .ok (.goto 6, 3) := by decide +kernel
theorem dX7_get_39 : decode cX7_get 39 = .ok (.ldc2_w 207, 3) := by decide +kernel
theorem dX7_get_42 : decode cX7_get 42 = .ok (.lreturn, 1) := by decide +kernel
theorem dX7_play_0 : decode cX7_play 0 = .ok (.iload_n 1, 1) := by decide +kernel
theorem dX7_play_1 : decode cX7_play 1 = .ok (.invokestatic 201, 3) := by decide +kernel
theorem dX7_play_4 : decode cX7_play 4 = .ok (.ifCond .ne 5, 3) := by decide +kernel
theorem dX7_play_7 : decode cX7_play 7 = .ok (.iconst (-1), 1) := by decide +kernel
theorem dX7_play_8 : decode cX7_play 8 = .ok (.ireturn, 1) := by decide +kernel
theorem dX7_play_9 : decode cX7_play 9 = .ok (.aload_n 0, 1) := by decide +kernel
theorem dX7_play_10 : decode cX7_play 10 = .ok (.getfield 32, 3) := by decide +kernel
theorem dX7_play_13 : decode cX7_play 13 = .ok (.iload_n 1, 1) := by decide +kernel
theorem dX7_play_14 : decode cX7_play 14 = .ok (.iaload, 1) := by decide +kernel
theorem dX7_play_15 : decode cX7_play 15 = .ok (.ifCond .ge 6, 3) := by decide +kernel
theorem dX7_play_18 : decode cX7_play 18 = .ok (.bipush (-11), 2) := by decide +kernel
theorem dX7_play_20 : decode cX7_play 20 = .ok (.ireturn, 1) := by decide +kernel
theorem dX7_play_21 : decode cX7_play 21 = .ok (.iconst 0, 1) := by decide +kernel
theorem dX7_play_22 : decode cX7_play 22 = .ok (.istore_n 2, 1) := by decide +kernel
theorem dX7_play_23 : decode cX7_play 23 = .ok (.iload_n 2, 1) := by decide +kernel
theorem dX7_play_24 : decode cX7_play 24 = .ok (.aload_n 0, 1) := by decide +kernel
theorem dX7_play_25 : decode cX7_play 25 = .ok (.getfield 32, 3) := by decide +kernel
theorem dX7_play_28 : decode cX7_play 28 = .ok (.iload_n 1, 1) := by decide +kernel
theorem dX7_play_29 : decode cX7_play 29 = .ok (.iaload, 1) := by decide +kernel
theorem dX7_play_30 : decode cX7_play 30 = .ok (.if_icmp .ge 105, 3) := by decide +kernel
theorem dX7_play_33 : decode cX7_play 33 = .ok (.aload_n 0, 1) := by decide +kernel
theorem dX7_play_34 : decode cX7_play 34 = .ok (.getfield 28, 3) := by decide +kernel
theorem dX7_play_37 : decode cX7_play 37 = .ok (.bipush 20, 2) := by decide +kernel
theorem dX7_play_39 : decode cX7_play 39 = .ok (.iload_n 1, 1) := by decide +kernel
theorem dX7_play_40 : decode cX7_play 40 = .ok (.imul, 1) := by decide +kernel
theorem dX7_play_41 : decode cX7_play 41 = .ok (.iload_n 2, 1) := by decide +kernel
theorem dX7_play_42 : decode cX7_play 42 = .ok (.iadd, 1) := by decide +kernel
theorem dX7_play_43 : decode cX7_play 43 = .ok (.laload, 1) := by decide +kernel
theorem dX7_play_44 : decode cX7_play 44 = .ok (.lstore_n 3, 1) := by decide +kernel
theorem dX7_play_45 : decode cX7_play 45 = .ok (.lload_n 3, 1) := by decide +kernel
theorem dX7_play_46 : decode cX7_play 46 = .ok (.aload_n 0, 1) := by decide +kernel
theorem dX7_play_47 : decode cX7_play 47 = .ok (.getfield 9, 3) := by decide +kernel
theorem dX7_play_50 : decode cX7_play 50 = .ok (.ineg, 1) := by decide +kernel
theorem dX7_play_51 : decode cX7_play 51 = .ok (.i2l, 1) := by decide +kernel
theorem dX7_play_52 : decode cX7_play 52 = .ok (.aload_n 0, 1) := by decide +kernel
theorem dX7_play_53 : decode cX7_play 53 = .ok (.getfield 9, 3) := by decide +kernel
theorem dX7_play_56 : decode cX7_play 56 = .ok (.iconst 1, 1) := by decide +kernel
theorem dX7_play_57 : decode cX7_play 57 = .ok (.isub, 1) := by decide +kernel
theorem dX7_play_58 : decode cX7_play 58 = .ok (.i2l, 1) := by decide +kernel
theorem dX7_play_59 : decode cX7_play 59 = .ok (.invokestatic 85, 3) := by decide +kernel
theorem dX7_play_62 : decode cX7_play 62 = .ok (.ifCond .ne 5, 3) := by decide +kernel
theorem dX7_play_65 : decode cX7_play 65 = .ok (.iload_n 2, 1) := by decide +kernel
theorem dX7_play_66 : decode cX7_play 66 = .ok (.ireturn, 1) := by decide +kernel
theorem dX7_play_67 : decode cX7_play 67 = .ok (.lload_n 3, 1) := by decide +kernel
theorem dX7_play_68 : decode cX7_play 68 = .ok (.lconst 0, 1) := by decide +kernel
theorem dX7_play_69 : decode cX7_play 69 = .ok (.lcmp, 1) := by decide +kernel
theorem dX7_play_70 : decode cX7_play 70 = .ok (.ifCond .lt 20, 3) := by decide +kernel
theorem dX7_play_73 : decode cX7_play 73 = .ok (.aload_n 0, 1) := by decide +kernel
theorem dX7_play_74 : decode cX7_play 74 = .ok (.aload_n 0, 1) := by decide +kernel
theorem dX7_play_75 : decode cX7_play 75 = .ok (.getfield 118, 3) := by decide +kernel
theorem dX7_play_78 : decode cX7_play 78 = .ok (.aload_n 0, 1) := by decide +kernel
theorem dX7_play_79 : decode cX7_play 79 = .ok (.getfield 9, 3) := by decide +kernel
theorem dX7_play_82 : decode cX7_play 82 = .ok (.lload_n 3, 1) := by decide +kernel
theorem dX7_play_83 : decode cX7_play 83 = .ok (.l2i, 1) := by decide +kernel
theorem dX7_play_84 : decode cX7_play 84 = .ok (.invokevirtual 143, 3) := by decide +kernel
theorem dX7_play_87 : decode cX7_play 87 = .ok (.goto 21, 3) := by decide +kernel
theorem dX7_play_90 : decode cX7_play 90 = .ok (.aload_n 0, 1) := by decide +kernel
theorem dX7_play_91 : decode cX7_play 91 = .ok (.aload_n 0, 1) := by decide +kernel
theorem dX7_play_92 : decode cX7_play 92 = .ok (.getfield 118, 3) := by decide +kernel
theorem dX7_play_95 : decode cX7_play 95 = .ok (.aload_n 0, 1) := by decide +kernel
theorem dX7_play_96 : decode cX7_play 96 = .ok (.getfield 9, 3) := by decide +kernel
theorem dX7_play_99 : decode cX7_play 99 = .ok (.ldc2_w 209, 3) := by decide +kernel
theorem dX7_play_102 : decode cX7_play 102 = .ok (.lload_n 3, 1) := by decide +kernel
theorem dX7_play_103 : decode cX7_play 103 = .ok (.lsub, 1) := by decide +kernel
theorem dX7_play_104 : decode cX7_play 104 = .ok (.l2i, 1) := by decide +kernel
theorem dX7_play_105 : decode cX7_play 105 = .ok (.invokevirtual 146, 3) := by decide +kernel
theorem dX7_play_108 : decode cX7_play 108 = .ok (.istore 5, 2) := by decide +kernel
theorem dX7_play_110 : decode cX7_play 110 = .ok (.iload 5, 2) := by decide +kernel
theorem dX7_play_112 : decode cX7_play 112 = .ok (.bipush (-5), 2) := by decide +kernel
theorem dX7_play_114 : decode cX7_play 114 = .ok (.if_icmp .ne 5, 3) := by decide +kernel
theorem dX7_play_117 : decode cX7_play 117 = .ok (.iload_n 2, 1) := by decide +kernel
theorem dX7_play_118 : decode cX7_play 118 = .ok (.ireturn, 1) := by decide +kernel
theorem dX7_play_119 : decode cX7_play 119 = .ok (.aload_n 0, 1) := by decide +kernel
theorem dX7_play_120 : decode cX7_play 120 = .ok (.aload_n 0, 1) := by decide +kernel
theorem dX7_play_121 : decode cX7_play 121 = .ok (.getfield 9, 3) := by decide +kernel
theorem dX7_play_124 : decode cX7_play 124 = .ok (.iload 5, 2) := by decide +kernel
theorem dX7_play_126 : decode cX7_play 126 = .ok (.invokevirtual 126, 3) := by decide +kernel
theorem dX7_play_129 : decode cX7_play 129 = .ok (.iinc 2 1, 3) := by decide +kernel
theorem dX7_play_132 : decode cX7_play 132 = .ok (.goto (-109), 3) := by decide +kernel
theorem dX7_play_135 : decode cX7_play 135 = .ok (.aload_n 0, 1) := by decide +kernel
theorem dX7_play_136 : decode cX7_play 136 = .ok (.getfield 32, 3) := by decide +kernel
theorem dX7_play_139 : decode cX7_play 139 = .ok (.iload_n 1, 1) := by decide +kernel
theorem dX7_play_140 : decode cX7_play 140 = .ok (.iaload, 1) := by decide +kernel
theorem dX7_play_141 : decode cX7_play 141 = .ok (.ireturn, 1) := by decide +kernel
theorem dX7_film_0 : decode cX7_film 0 = .ok (.iload_n 1, 1) := by decide +kernel
theorem dX7_film_1 : decode cX7_film 1 = .ok (.invokestatic 201, 3) := by decide +kernel
theorem dX7_film_4 : decode cX7_film 4 = .ok (.ifCond .eq 10, 3) := by decide +kernel
theorem dX7_film_7 : decode cX7_film 7 = .ok (.iload_n 2, 1) := by decide +kernel
theorem dX7_film_8 : decode cX7_film 8 = .ok (.invokestatic 159, 3) := by decide +kernel
theorem dX7_film_11 : decode cX7_film 11 = .ok (.ifCond .ne 5, 3) := by decide +kernel
theorem dX7_film_14 : decode cX7_film 14 = .ok (.iconst (-1), 1) := by decide +kernel
theorem dX7_film_15 : decode cX7_film 15 = .ok (.ireturn, 1) := by decide +kernel
theorem dX7_film_16 : decode cX7_film 16 = .ok (.aload_n 0, 1) := by decide +kernel
theorem dX7_film_17 : decode cX7_film 17 = .ok (.iload_n 2, 1) := by decide +kernel
theorem dX7_film_18 : decode cX7_film 18 = .ok (.invokevirtual 162, 3) := by decide +kernel
theorem dX7_film_21 : decode cX7_film 21 = .ok (.istore_n 3, 1) := by decide +kernel
theorem dX7_film_22 : decode cX7_film 22 = .ok (.iload_n 3, 1) := by decide +kernel
theorem dX7_film_23 : decode cX7_film 23 = .ok (.ifCond .eq 5, 3) := by decide +kernel
theorem dX7_film_26 : decode cX7_film 26 = .ok (.iload_n 3, 1) := by decide +kernel
theorem dX7_film_27 : decode cX7_film 27 = .ok (.ireturn, 1) := by decide +kernel
theorem dX7_film_28 : decode cX7_film 28 = .ok (.aload_n 0, 1) := by decide +kernel
theorem dX7_film_29 : decode cX7_film 29 = .ok (.aload_n 0, 1) := by decide +kernel
theorem dX7_film_30 : decode cX7_film 30 = .ok (.getfield 19, 3) := by decide +kernel
theorem dX7_film_33 : decode cX7_film 33 = .ok (.iload_n 2, 1) := by decide +kernel
theorem dX7_film_34 : decode cX7_film 34 = .ok (.iaload, 1) := by decide +kernel
theorem dX7_film_35 : decode cX7_film 35 = .ok (.iconst 0, 1) := by decide +kernel
theorem dX7_film_36 : decode cX7_film 36 = .ok (.invokevirtual 176, 3) := by decide +kernel
theorem dX7_film_39 : decode cX7_film 39 = .ok (.aload_n 0, 1) := by decide +kernel
theorem dX7_film_40 : decode cX7_film 40 = .ok (.getfield 62, 3) := by decide +kernel
theorem dX7_film_43 : decode cX7_film 43 = .ok (.aload_n 0, 1) := by decide +kernel
theorem dX7_film_44 : decode cX7_film 44 = .ok (.invokevirtual 129, 3) := by decide +kernel
theorem dX7_film_47 : decode cX7_film 47 = .ok (.iaload, 1) := by decide +kernel
theorem dX7_film_48 : decode cX7_film 48 = .ok (.istore 4, 2) := by decide +kernel
theorem dX7_film_50 : decode cX7_film 50 = .ok (.iload 4, 2) := by decide +kernel
theorem dX7_film_52 : decode cX7_film 52 = .ok (.bipush 20, 2) := by decide +kernel
theorem dX7_film_54 : decode cX7_film 54 = .ok (.if_icmp .le 6, 3) := by decide +kernel
theorem dX7_film_57 : decode cX7_film 57 = .ok (.bipush (-4), 2) := by decide +kernel
theorem dX7_film_59 : decode cX7_film 59 = .ok (.ireturn, 1) := by decide +kernel
theorem dX7_film_60 : decode cX7_film 60 = .ok (.aload_n 0, 1) := by decide +kernel
theorem dX7_film_61 : decode cX7_film 61 = .ok (.iload_n 1, 1) := by decide +kernel
theorem dX7_film_62 : decode cX7_film 62 = .ok (.iload 4, 2) := by decide +kernel
theorem dX7_film_64 : decode cX7_film 64 = .ok (.invokevirtual 204, 3) := by decide +kernel
theorem dX7_film_67 : decode cX7_film 67 = .ok (.aload_n 0, 1) := by decide +kernel
theorem dX7_film_68 : decode cX7_film 68 = .ok (.getfield 118, 3) := by decide +kernel
theorem dX7_film_71 : decode cX7_film 71 = .ok (.istore 5, 2) := by decide +kernel
theorem dX7_film_73 : decode cX7_film 73 = .ok (.iconst 0, 1) := by decide +kernel
theorem dX7_film_74 : decode cX7_film 74 = .ok (.istore 6, 2) := by decide +kernel
theorem dX7_film_76 : decode cX7_film 76 = .ok (.iload 6, 2) := by decide +kernel
theorem dX7_film_78 : decode cX7_film 78 = .ok (.iload 4, 2) := by decide +kernel
theorem dX7_film_80 : decode cX7_film 80 = .ok (.if_icmp .ge 90, 3) := by decide +kernel
theorem dX7_film_83 : decode cX7_film 83 = .ok (.aload_n 0, 1) := by decide +kernel
theorem dX7_film_84 : decode cX7_film 84 = .ok (.iload 5, 2) := by decide +kernel
theorem dX7_film_86 : decode cX7_film 86 = .ok (.invokevirtual 180, 3) := by decide +kernel
theorem dX7_film_89 : decode cX7_film 89 = .ok (.istore 7, 2) := by decide +kernel
theorem dX7_film_91 : decode cX7_film 91 = .ok (.iload 7, 2) := by decide +kernel
theorem dX7_film_93 : decode cX7_film 93 = .ok (.bipush 100, 2) := by decide +kernel
theorem dX7_film_95 : decode cX7_film 95 = .ok (.irem, 1) := by decide +kernel
theorem dX7_film_96 : decode cX7_film 96 = .ok (.istore 8, 2) := by decide +kernel
theorem dX7_film_98 : decode cX7_film 98 = .ok (.aload_n 0, 1) := by decide +kernel
theorem dX7_film_99 : decode cX7_film 99 = .ok (.getfield 28, 3) := by decide +kernel
theorem dX7_film_102 : decode cX7_film 102 = .ok (.bipush 20, 2) := by decide +kernel
theorem dX7_film_104 : decode cX7_film 104 = .ok (.iload_n 1, 1) := by decide +kernel
theorem dX7_film_105 : decode cX7_film 105 = .ok (.imul, 1) := by decide +kernel
theorem dX7_film_106 : decode cX7_film 106 = .ok (.iload 6, 2) := by decide +kernel
theorem dX7_film_108 : decode cX7_film 108 = .ok (.iadd, 1) := by decide +kernel
theorem dX7_film_109 : decode cX7_film 109 = .ok (.iload 7, 2) := by decide +kernel
theorem dX7_film_111 : decode cX7_film 111 = .ok (.bipush 100, 2) := by decide +kernel
theorem dX7_film_113 : decode cX7_film 113 = .ok (.if_icmp .ge 9, 3) := by decide +kernel
theorem dX7_film_116 : decode cX7_film 116 = .ok (.iload 8, 2) := by decide +kernel
theorem dX7_film_118 : decode cX7_film 118 = .ok (.i2l, 1) := by decide +kernel
theorem dX7_film_119 : decode cX7_film 119 = .ok (.goto 8, 3) := by decide +kernel
theorem dX7_film_122 : decode cX7_film 122 = .ok (.iconst (-1), 1) := by decide +kernel
theorem dX7_film_123 : decode cX7_film 123 = .ok (.iload 8, 2) := by decide +kernel
theorem dX7_film_125 : decode cX7_film 125 = .ok (.isub, 1) := by decide +kernel
theorem dX7_film_126 : decode cX7_film 126 = .ok (.i2l, 1) := by decide +kernel
theorem dX7_film_127 : decode cX7_film 127 = .ok (.lastore, 1) := by decide +kernel
theorem dX7_film_128 : decode cX7_film 128 = .ok (.iload 7, 2) := by decide +kernel
theorem dX7_film_130 : decode cX7_film 130 = .ok (.bipush 100, 2) := by decide +kernel
theorem dX7_film_132 : decode cX7_film 132 = .ok (.if_icmp .ge 18, 3) := by decide +kernel
theorem dX7_film_135 : decode cX7_film 135 = .ok (.aload_n 0, 1) := by decide +kernel
theorem dX7_film_136 : decode cX7_film 136 = .ok (.iload 5, 2) := by decide +kernel
theorem dX7_film_138 : decode cX7_film 138 = .ok (.aload_n 0, 1) := by decide +kernel
theorem dX7_film_139 : decode cX7_film 139 = .ok (.getfield 9, 3) := by decide +kernel
theorem dX7_film_142 : decode cX7_film 142 = .ok (.iload 8, 2) := by decide +kernel
theorem dX7_film_144 : decode cX7_film 144 = .ok (.invokevirtual 143, 3) := by decide +kernel
theorem dX7_film_147 : decode cX7_film 147 = .ok (.goto 15, 3) := by decide +kernel
theorem dX7_film_150 : decode cX7_film 150 = .ok (.aload_n 0, 1) := by decide +kernel
theorem dX7_film_151 : decode cX7_film 151 = .ok (.iload 5, 2) := by decide +kernel
theorem dX7_film_153 : decode cX7_film 153 = .ok (.aload_n 0, 1) := by decide +kernel
theorem dX7_film_154 : decode cX7_film 154 = .ok (.getfield 9, 3) := by decide +kernel
theorem dX7_film_157 : decode cX7_film 157 = .ok (.iload 8, 2) := by decide +kernel
theorem dX7_film_159 : decode cX7_film 159 = .ok (.invokevirtual 146, 3) := by decide +kernel
theorem dX7_film_162 : decode cX7_film 162 = .ok (.istore 5, 2) := by decide +kernel
theorem dX7_film_164 : decode cX7_film 164 = .ok (.iinc 6 1, 3) := by decide +kernel
theorem dX7_film_167 : decode cX7_film 167 = .ok (.goto (-91), 3) := by decide +kernel
theorem dX7_film_170 : decode cX7_film 170 = .ok (.iload 4, 2) := by decide +kernel
theorem dX7_film_172 : decode cX7_film 172 = .ok (.ireturn, 1) := by decide +kernel
theorem dX7_feed_0 : decode cX7_feed 0 = .ok (.iload_n 1, 1) := by decide +kernel
theorem dX7_feed_1 : decode cX7_feed 1 = .ok (.i2l, 1) := by decide +kernel
theorem dX7_feed_2 : decode cX7_feed 2 = .ok (.ldc2_w 211, 3) := by decide +kernel
theorem dX7_feed_5 : decode cX7_feed 5 = .ok (.ldc2_w 213, 3) := by decide +kernel
theorem dX7_feed_8 : decode cX7_feed 8 = .ok (.invokestatic 85, 3) := by decide +kernel
theorem dX7_feed_11 : decode cX7_feed 11 = .ok (.ifCond .ne 6, 3) := by decide +kernel
theorem dX7_feed_14 : decode cX7_feed 14 = .ok (.bipush (-2), 2) := by decide +kernel
theorem dX7_feed_16 : decode cX7_feed 16 = .ok (.ireturn, 1) := by decide +kernel
theorem dX7_feed_17 : decode cX7_feed 17 = .ok (.aload_n 0, 1) := by decide +kernel
theorem dX7_feed_18 : decode cX7_feed 18 = .ok (.getfield 215, 3) := by decide +kernel
theorem dX7_feed_21 : decode cX7_feed 21 = .ok (.bipush 60, 2) := by decide +kernel
theorem dX7_feed_23 : decode cX7_feed 23 = .ok (.if_icmp .ne 6, 3) := by decide +kernel
theorem dX7_feed_26 : decode cX7_feed 26 = .ok (.bipush (-4), 2) := by decide +kernel
theorem dX7_feed_28 : decode cX7_feed 28 = .ok (.ireturn, 1) := by decide +kernel
theorem dX7_feed_29 : decode cX7_feed 29 = .ok (.aload_n 0, 1) := by decide +kernel
theorem dX7_feed_30 : decode cX7_feed 30 = .ok (.getfield 35, 3) := by decide +kernel
theorem dX7_feed_33 : decode cX7_feed 33 = .ok (.aload_n 0, 1) := by decide +kernel
theorem dX7_feed_34 : decode cX7_feed 34 = .ok (.dup, 1) := by decide +kernel
theorem dX7_feed_35 : decode cX7_feed 35 = .ok (.getfield 215, 3) := by decide +kernel
theorem dX7_feed_38 : decode cX7_feed 38 = .ok (.dup_x1, 1) := by decide +kernel
theorem dX7_feed_39 : decode cX7_feed 39 = .ok (.iconst 1, 1) := by decide +kernel
theorem dX7_feed_40 : decode cX7_feed 40 = .ok (.iadd, 1) := by decide +kernel
theorem dX7_feed_41 : decode cX7_feed 41 = .ok (.putfield 215, 3) := by decide +kernel
theorem dX7_feed_44 : decode cX7_feed 44 = .ok (.iload_n 1, 1) := by decide +kernel
theorem dX7_feed_45 : decode cX7_feed 45 = .ok (.iastore, 1) := by decide +kernel
theorem dX7_feed_46 : decode cX7_feed 46 = .ok (.aload_n 0, 1) := by decide +kernel
theorem dX7_feed_47 : decode cX7_feed 47 = .ok (.getfield 215, 3) := by decide +kernel
theorem dX7_feed_50 : decode cX7_feed 50 = .ok (.ireturn, 1) := by decide +kernel
theorem dX7_wipe_0 : decode cX7_wipe 0 = .ok (.aload_n 0, 1) := by decide +kernel
theorem dX7_wipe_1 : decode cX7_wipe 1 = .ok (.getfield 215, 3) := by decide +kernel
theorem dX7_wipe_4 : decode cX7_wipe 4 = .ok (.istore_n 1, 1) := by decide +kernel
theorem dX7_wipe_5 : decode cX7_wipe 5 = .ok (.aload_n 0, 1) := by decide +kernel
theorem dX7_wipe_6 : decode cX7_wipe 6 = .ok (.iconst 0, 1) := by decide +kernel
theorem dX7_wipe_7 : decode cX7_wipe 7 = .ok (.putfield 215, 3) := by decide +kernel
theorem dX7_wipe_10 : decode cX7_wipe 10 = .ok (.iload_n 1, 1) := by decide +kernel
theorem dX7_wipe_11 : decode cX7_wipe 11 = .ok (.ireturn, 1) := by decide +kernel
theorem dX7_sign_0 : decode cX7_sign 0 = .ok (.aload_n 0, 1) := by decide +kernel
theorem dX7_sign_1 : decode cX7_sign 1 = .ok (.getfield 218, 3) := by decide +kernel
theorem dX7_sign_4 : decode cX7_sign 4 = .ok (.aload_n 0, 1) := by decide +kernel
theorem dX7_sign_5 : decode cX7_sign 5 = .ok (.getfield 215, 3) := by decide +kernel
theorem dX7_sign_8 : decode cX7_sign 8 = .ok (.if_icmp .ge 15, 3) := by decide +kernel
theorem dX7_sign_11 : decode cX7_sign 11 = .ok (.aload_n 0, 1) := by decide +kernel
theorem dX7_sign_12 : decode cX7_sign 12 = .ok (.getfield 35, 3) := by decide +kernel
theorem dX7_sign_15 : decode cX7_sign 15 = .ok (.aload_n 0, 1) := by decide +kernel
theorem dX7_sign_16 : decode cX7_sign 16 = .ok (.getfield 218, 3) := by decide +kernel
theorem dX7_sign_19 : decode cX7_sign 19 = .ok (.iaload, 1) := by decide +kernel
theorem dX7_sign_20 : decode cX7_sign 20 = .ok (.goto 4, 3) := by decide +kernel
theorem dX7_sign_23 : decode cX7_sign 23 = .ok (.iconst (-1), 1) := by decide +kernel
theorem dX7_sign_24 : decode cX7_sign 24 = .ok (.ireturn, 1) := by decide +kernel
theorem dX7_sees_0 : decode cX7_sees 0 = .ok (.aload_n 0, 1) := by decide +kernel
theorem dX7_sees_1 : decode cX7_sees 1 = .ok (.invokevirtual 220, 3) := by decide +kernel
theorem dX7_sees_4 : decode cX7_sees 4 = .ok (.bipush 46, 2) := by decide +kernel
theorem dX7_sees_6 : decode cX7_sees 6 = .ok (.if_icmp .ne 24, 3) := by decide +kernel
theorem dX7_sees_9 : decode cX7_sees 9 = .ok (.iload_n 1, 1) := by decide +kernel
theorem dX7_sees_10 : decode cX7_sees 10 = .ok (.ifCond .eq 20, 3) := by decide +kernel
theorem dX7_sees_13 : decode cX7_sees 13 = .ok (.aload_n 0, 1) := by decide +kernel
theorem dX7_sees_14 : decode cX7_sees 14 = .ok (.dup, 1) := by decide +kernel
theorem dX7_sees_15 : decode cX7_sees 15 = .ok (.getfield 218, 3) := by decide +kernel
theorem dX7_sees_18 : decode cX7_sees 18 = .ok (.iconst 1, 1) := by decide +kernel
theorem dX7_sees_19 : decode cX7_sees 19 = .ok (.iadd, 1) := by decide +kernel
theorem dX7_sees_20 : decode cX7_sees 20 = .ok (.putfield 218, 3) := by decide +kernel
theorem dX7_sees_23 : decode cX7_sees 23 = .ok (.aload_n 0, 1) := by decide +kernel
theorem dX7_sees_24 : decode cX7_sees 24 = .ok (.iconst 0, 1) := by decide +kernel
theorem dX7_sees_25 : decode cX7_sees 25 = .ok (.putfield 223, 3) := by decide +kernel
theorem dX7_sees_28 : decode cX7_sees 28 = .ok (.iconst 1, 1) := by decide +kernel
theorem dX7_sees_29 : decode cX7_sees 29 = .ok (.ireturn, 1) := by decide +kernel
theorem dX7_sees_30 : decode cX7_sees 30 = .ok (.aload_n 0, 1) := by decide +kernel
theorem dX7_sees_31 : decode cX7_sees 31 = .ok (.invokevirtual 220, 3) := by decide +kernel
theorem dX7_sees_34 : decode cX7_sees 34 = .ok (.bipush 40, 2) := by decide +kernel
theorem dX7_sees_36 : decode cX7_sees 36 = .ok (.if_icmp .ne 12, 3) := by decide +kernel
theorem dX7_sees_39 : decode cX7_sees 39 = .ok (.aload_n 0, 1) := by decide +kernel
theorem dX7_sees_40 : decode cX7_sees 40 = .ok (.getfield 226, 3) := by decide +kernel
theorem dX7_sees_43 : decode cX7_sees 43 = .ok (.bipush 7, 2) := by decide +kernel
theorem dX7_sees_45 : decode cX7_sees 45 = .ok (.if_icmp .ne 5, 3) := by decide +kernel
theorem dX7_sees_48 : decode cX7_sees 48 = .ok (.iconst 0, 1) := by decide +kernel
theorem dX7_sees_49 : decode cX7_sees 49 = .ok (.ireturn, 1) := by decide +kernel
theorem dX7_sees_50 : decode cX7_sees 50 = .ok (.aload_n 0, 1) := by decide +kernel
theorem dX7_sees_51 : decode cX7_sees 51 = .ok (.dup, 1) := by decide +kernel
theorem dX7_sees_52 : decode cX7_sees 52 = .ok (.getfield 226, 3) := by decide +kernel
theorem dX7_sees_55 : decode cX7_sees 55 = .ok (.iconst 1, 1) := by decide +kernel
theorem dX7_sees_56 : decode cX7_sees 56 = .ok (.iadd, 1) := by decide +kernel
theorem dX7_sees_57 : decode cX7_sees 57 = .ok (.putfield 226, 3) := by decide +kernel
theorem dX7_sees_60 : decode cX7_sees 60 = .ok (.aload_n 0, 1) := by decide +kernel
theorem dX7_sees_61 : decode cX7_sees 61 = .ok (.dup, 1) := by decide +kernel
theorem dX7_sees_62 : decode cX7_sees 62 = .ok (.getfield 218, 3) := by decide +kernel
theorem dX7_sees_65 : decode cX7_sees 65 = .ok (.iconst 1, 1) := by decide +kernel
theorem dX7_sees_66 : decode cX7_sees 66 = .ok (.iadd, 1) := by decide +kernel
theorem dX7_sees_67 : decode cX7_sees 67 = .ok (.putfield 218, 3) := by decide +kernel
theorem dX7_sees_70 : decode cX7_sees 70 = .ok (.aload_n 0, 1) := by decide +kernel
theorem dX7_sees_71 : decode cX7_sees 71 = .ok (.iconst 1, 1) := by decide +kernel
theorem dX7_sees_72 : decode cX7_sees 72 = .ok (.invokevirtual 229, 3) := by decide +kernel
theorem dX7_sees_75 : decode cX7_sees 75 = .ok (.ifCond .ne 5, 3) := by decide +kernel
theorem dX7_sees_78 : decode cX7_sees 78 = .ok (.iconst 0, 1) := by decide +kernel
theorem dX7_sees_79 : decode cX7_sees 79 = .ok (.ireturn, 1) := by decide +kernel
theorem dX7_sees_80 : decode cX7_sees 80 = .ok (.aload_n 0, 1) := by decide +kernel
theorem dX7_sees_81 : decode cX7_sees 81 = .ok (.getfield 223, 3) := by decide +kernel
theorem dX7_sees_84 : decode cX7_sees 84 = .ok (.istore_n 2, 1) := by decide +kernel
theorem dX7_sees_85 : decode cX7_sees 85 = .ok (.aload_n 0, 1) := by decide +kernel
theorem dX7_sees_86 : decode cX7_sees 86 = .ok (.dup, 1) := by decide +kernel
theorem dX7_sees_87 : decode cX7_sees 87 = .ok (.getfield 233, 3) := by decide +kernel
theorem dX7_sees_90 : decode cX7_sees 90 = .ok (.dup_x1, 1) := by decide +kernel
theorem dX7_sees_91 : decode cX7_sees 91 = .ok (.iconst 1, 1) := by decide +kernel
theorem dX7_sees_92 : decode cX7_sees 92 = .ok (.iadd, 1) := by decide +kernel
theorem dX7_sees_93 : decode cX7_sees 93 = .ok (.putfield 233, 3) := by decide +kernel
theorem dX7_sees_96 : decode cX7_sees 96 = .ok (.istore_n 3, 1) := by decide +kernel
theorem dX7_sees_97 : decode cX7_sees 97 = .ok (.aload_n 0, 1) := by decide +kernel
theorem dX7_sees_98 : decode cX7_sees 98 = .ok (.iconst 1, 1) := by decide +kernel
theorem dX7_sees_99 : decode cX7_sees 99 = .ok (.invokevirtual 229, 3) := by decide +kernel
theorem dX7_sees_102 : decode cX7_sees 102 = .ok (.ifCond .ne 5, 3) := by decide +kernel
theorem dX7_sees_105 : decode cX7_sees 105 = .ok (.iconst 0, 1) := by decide +kernel
theorem dX7_sees_106 : decode cX7_sees 106 = .ok (.ireturn, 1) := by decide +kernel
theorem dX7_sees_107 : decode cX7_sees 107 = .ok (.aload_n 0, 1) := by decide +kernel
theorem dX7_sees_108 : decode cX7_sees 108 = .ok (.invokevirtual 220, 3) := by decide +kernel
theorem dX7_sees_111 : decode cX7_sees 111 = .ok (.bipush 41, 2) := by decide +kernel
theorem dX7_sees_113 : decode cX7_sees 113 = .ok (.if_icmp .eq 5, 3) := by decide +kernel
theorem dX7_sees_116 : decode cX7_sees 116 = .ok (.iconst 0, 1) := by decide +kernel
theorem dX7_sees_117 : decode cX7_sees 117 = .ok (.ireturn, 1) := by decide +kernel
theorem dX7_sees_118 : decode cX7_sees 118 = .ok (.aload_n 0, 1) := by decide +kernel
theorem dX7_sees_119 : decode cX7_sees 119 = .ok (.dup, 1) := by decide +kernel
theorem dX7_sees_120 : decode cX7_sees 120 = .ok (.getfield 218, 3) := by decide +kernel
theorem dX7_sees_123 : decode cX7_sees 123 = .ok (.iconst 1, 1) := by decide +kernel
theorem dX7_sees_124 : decode cX7_sees 124 = .ok (.iadd, 1) := by decide +kernel
theorem dX7_sees_125 : decode cX7_sees 125 = .ok (.putfield 218, 3) := by decide +kernel
theorem dX7_sees_128 : decode cX7_sees 128 = .ok (.aload_n 0, 1) := by decide +kernel
theorem dX7_sees_129 : decode cX7_sees 129 = .ok (.getfield 74, 3) := by decide +kernel
theorem dX7_sees_132 : decode cX7_sees 132 = .ok (.iload_n 3, 1) := by decide +kernel
theorem dX7_sees_133 : decode cX7_sees 133 = .ok (.aload_n 0, 1) := by decide +kernel
theorem dX7_sees_134 : decode cX7_sees 134 = .ok (.getfield 223, 3) := by decide +kernel
theorem dX7_sees_137 : decode cX7_sees 137 = .ok (.iastore, 1) := by decide +kernel
theorem dX7_sees_138 : decode cX7_sees 138 = .ok (.aload_n 0, 1) := by decide +kernel
theorem dX7_sees_139 : decode cX7_sees 139 = .ok (.dup, 1) := by decide +kernel
theorem dX7_sees_140 : decode cX7_sees 140 = .ok (.getfield 223, 3) := by decide +kernel
theorem dX7_sees_143 : decode cX7_sees 143 = .ok (.iload_n 2, 1) := by decide +kernel
theorem dX7_sees_144 : decode cX7_sees 144 = .ok (.iconst 1, 1) := by decide +kernel
theorem dX7_sees_145 : decode cX7_sees 145 = .ok (.iadd, 1) := by decide +kernel
theorem dX7_sees_146 : decode cX7_sees 146 = .ok (.iadd, 1) := by decide +kernel
theorem dX7_sees_147 : decode cX7_sees 147 = .ok (.putfield 223, 3) := by decide +kernel
theorem dX7_sees_150 : decode cX7_sees 150 = .ok (.iconst 1, 1) := by decide +kernel
theorem dX7_sees_151 : decode cX7_sees 151 = .ok (.ireturn, 1) := by decide +kernel
theorem dX7_read_0 : decode cX7_read 0 = .ok (.aload_n 0, 1) := by decide +kernel
theorem dX7_read_1 : decode cX7_read 1 = .ok (.iconst 0, 1) := by decide +kernel
theorem dX7_read_2 : decode cX7_read 2 = .ok (.putfield 218, 3) := by decide +kernel
theorem dX7_read_5 : decode cX7_read 5 = .ok (.aload_n 0, 1) := by decide +kernel
theorem dX7_read_6 : decode cX7_read 6 = .ok (.iconst 0, 1) := by decide +kernel
theorem dX7_read_7 : decode cX7_read 7 = .ok (.putfield 226, 3) := by decide +kernel
theorem dX7_read_10 : decode cX7_read 10 = .ok (.aload_n 0, 1) := by decide +kernel
theorem dX7_read_11 : decode cX7_read 11 = .ok (.iconst 0, 1) := by decide +kernel
theorem dX7_read_12 : decode cX7_read 12 = .ok (.putfield 233, 3) := by decide +kernel
theorem dX7_read_15 : decode cX7_read 15 = .ok (.aload_n 0, 1) := by decide +kernel
theorem dX7_read_16 : decode cX7_read 16 = .ok (.iconst 0, 1) := by decide +kernel
theorem dX7_read_17 : decode cX7_read 17 = .ok (.invokevirtual 229, 3) := by decide +kernel
theorem dX7_read_20 : decode cX7_read 20 = .ok (.ifCond .eq 18, 3) := by decide +kernel
theorem dX7_read_23 : decode cX7_read 23 = .ok (.aload_n 0, 1) := by decide +kernel
theorem dX7_read_24 : decode cX7_read 24 = .ok (.getfield 218, 3) := by decide +kernel
theorem dX7_read_27 : decode cX7_read 27 = .ok (.aload_n 0, 1) := by decide +kernel
theorem dX7_read_28 : decode cX7_read 28 = .ok (.getfield 215, 3) := by decide +kernel
theorem dX7_read_31 : decode cX7_read 31 = .ok (.if_icmp .ne 7, 3) := by decide +kernel
theorem dX7_read_34 : decode cX7_read 34 = .ok (.iconst 1, 1) := by decide +kernel
theorem dX7_read_35 : decode cX7_read 35 = .ok (.goto 4, 3) := by decide +kernel
theorem dX7_read_38 : decode cX7_read 38 = .ok (.iconst 0, 1) := by decide +kernel
theorem dX7_read_39 : decode cX7_read 39 = .ok (.istore_n 1, 1) := by decide +kernel
theorem dX7_read_40 : decode cX7_read 40 = .ok (.aload_n 0, 1) := by decide +kernel
theorem dX7_read_41 : decode cX7_read 41 = .ok (.iconst 0, 1) := by decide +kernel
theorem dX7_read_42 : decode cX7_read 42 = .ok (.putfield 215, 3) := by decide +kernel
theorem dX7_read_45 : decode cX7_read 45 = .ok (.iload_n 1, 1) := by decide +kernel
theorem dX7_read_46 : decode cX7_read 46 = .ok (.ifCond .ne 11, 3) := by decide +kernel
theorem dX7_read_49 : decode cX7_read 49 = .ok (.bipush (-100), 2) := by decide +kernel
theorem dX7_read_51 : decode cX7_read 51 = .ok (.aload_n 0, 1) := by decide +kernel
theorem dX7_read_52 : decode cX7_read 52 = .ok (.getfield 218, 3) := by decide +kernel
theorem dX7_read_55 : decode cX7_read 55 = .ok (.isub, 1) := by decide +kernel
theorem dX7_read_56 : decode cX7_read 56 = .ok (.ireturn, 1) := by decide +kernel
theorem dX7_read_57 : decode cX7_read 57 = .ok (.iconst 0, 1) := by decide +kernel
theorem dX7_read_58 : decode cX7_read 58 = .ok (.istore_n 2, 1) := by decide +kernel
theorem dX7_read_59 : decode cX7_read 59 = .ok (.iconst 0, 1) := by decide +kernel
theorem dX7_read_60 : decode cX7_read 60 = .ok (.istore_n 3, 1) := by decide +kernel
theorem dX7_read_61 : decode cX7_read 61 = .ok (.iload_n 3, 1) := by decide +kernel
theorem dX7_read_62 : decode cX7_read 62 = .ok (.aload_n 0, 1) := by decide +kernel
theorem dX7_read_63 : decode cX7_read 63 = .ok (.getfield 233, 3) := by decide +kernel
theorem dX7_read_66 : decode cX7_read 66 = .ok (.if_icmp .ge 21, 3) := by decide +kernel
theorem dX7_read_69 : decode cX7_read 69 = .ok (.bipush 10, 2) := by decide +kernel
theorem dX7_read_71 : decode cX7_read 71 = .ok (.iload_n 2, 1) := by decide +kernel
theorem dX7_read_72 : decode cX7_read 72 = .ok (.imul, 1) := by decide +kernel
theorem dX7_read_73 : decode cX7_read 73 = .ok (.aload_n 0, 1) := by decide +kernel
theorem dX7_read_74 : decode cX7_read 74 = .ok (.getfield 74, 3) := by decide +kernel
theorem dX7_read_77 : decode cX7_read 77 = .ok (.iload_n 3, 1) := by decide +kernel
theorem dX7_read_78 : decode cX7_read 78 = .ok (.iaload, 1) := by decide +kernel
theorem dX7_read_79 : decode cX7_read 79 = .ok (.iadd, 1) := by decide +kernel
theorem dX7_read_80 : decode cX7_read 80 = .ok (.istore_n 2, 1) := by decide +kernel
theorem dX7_read_81 : decode cX7_read 81 = .ok (.iinc 3 1, 3) := by decide +kernel
theorem dX7_read_84 : decode cX7_read 84 = .ok (.goto (-23), 3) := by decide +kernel
theorem dX7_read_87 : decode cX7_read 87 = .ok (.aload_n 0, 1) := by decide +kernel
theorem dX7_read_88 : decode cX7_read 88 = .ok (.aload_n 0, 1) := by decide +kernel
theorem dX7_read_89 : decode cX7_read 89 = .ok (.getfield 233, 3) := by decide +kernel
theorem dX7_read_92 : decode cX7_read 92 = .ok (.putfield 9, 3) := by decide +kernel
theorem dX7_read_95 : decode cX7_read 95 = .ok (.aload_n 0, 1) := by decide +kernel
theorem dX7_read_96 : decode cX7_read 96 = .ok (.iload_n 2, 1) := by decide +kernel
theorem dX7_read_97 : decode cX7_read 97 = .ok (.putfield 118, 3) := by decide +kernel
theorem dX7_read_100 : decode cX7_read 100 = .ok (.aload_n 0, 1) := by decide +kernel
theorem dX7_read_101 : decode cX7_read 101 = .ok (.iconst 0, 1) := by decide +kernel
theorem dX7_read_102 : decode cX7_read 102 = .ok (.putfield 121, 3) := by decide +kernel
theorem dX7_read_105 : decode cX7_read 105 = .ok (.aload_n 0, 1) := by decide +kernel
theorem dX7_read_106 : decode cX7_read 106 = .ok (.getfield 9, 3) := by decide +kernel
theorem dX7_read_109 : decode cX7_read 109 = .ok (.ireturn, 1) := by decide +kernel
theorem dX7_write_0 : decode cX7_write 0 = .ok (.iload_n 1, 1) := by decide +kernel
theorem dX7_write_1 : decode cX7_write 1 = .ok (.bipush (-5), 2) := by decide +kernel
theorem dX7_write_3 : decode cX7_write 3 = .ok (.if_icmp .ne 22, 3) := by decide +kernel
theorem dX7_write_6 : decode cX7_write 6 = .ok (.aload_n 0, 1) := by decide +kernel
theorem dX7_write_7 : decode cX7_write 7 = .ok (.getfield 71, 3) := by decide +kernel
theorem dX7_write_10 : decode cX7_write 10 = .ok (.aload_n 0, 1) := by decide +kernel
theorem dX7_write_11 : decode cX7_write 11 = .ok (.dup, 1) := by decide +kernel
theorem dX7_write_12 : decode cX7_write 12 = .ok (.getfield 236, 3) := by decide +kernel
theorem dX7_write_15 : decode cX7_write 15 = .ok (.dup_x1, 1) := by decide +kernel
theorem dX7_write_16 : decode cX7_write 16 = .ok (.iconst 1, 1) := by decide +kernel
theorem dX7_write_17 : decode cX7_write 17 = .ok (.iadd, 1) := by decide +kernel
theorem dX7_write_18 : decode cX7_write 18 = .ok (.putfield 236, 3) := by decide +kernel
theorem dX7_write_21 : decode cX7_write 21 = .ok (.bipush 46, 2) := by decide +kernel
theorem dX7_write_23 : decode cX7_write 23 = .ok (.iastore, 1) := by decide +kernel
theorem dX7_write_24 : decode cX7_write 24 = .ok (.return_, 1) := by decide +kernel
theorem dX7_write_25 : decode cX7_write 25 = .ok (.aload_n 0, 1) := by decide +kernel
theorem dX7_write_26 : decode cX7_write 26 = .ok (.getfield 71, 3) := by decide +kernel
theorem dX7_write_29 : decode cX7_write 29 = .ok (.aload_n 0, 1) := by decide +kernel
theorem dX7_write_30 : decode cX7_write 30 = .ok (.dup, 1) := by decide +kernel
theorem dX7_write_31 : decode cX7_write 31 = .ok (.getfield 236, 3) := by decide +kernel
theorem dX7_write_34 : decode cX7_write 34 = .ok (.dup_x1, 1) := by decide +kernel
theorem dX7_write_35 : decode cX7_write 35 = .ok (.iconst 1, 1) := by decide +kernel
theorem dX7_write_36 : decode cX7_write 36 = .ok (.iadd, 1) := by decide +kernel
theorem dX7_write_37 : decode cX7_write 37 = .ok (.putfield 236, 3) := by decide +kernel
theorem dX7_write_40 : decode cX7_write 40 = .ok (.bipush 40, 2) := by decide +kernel
theorem dX7_write_42 : decode cX7_write 42 = .ok (.iastore, 1) := by decide +kernel
theorem dX7_write_43 : decode cX7_write 43 = .ok (.aload_n 0, 1) := by decide +kernel
theorem dX7_write_44 : decode cX7_write 44 = .ok (.aload_n 0, 1) := by decide +kernel
theorem dX7_write_45 : decode cX7_write 45 = .ok (.getfield 50, 3) := by decide +kernel
theorem dX7_write_48 : decode cX7_write 48 = .ok (.iload_n 1, 1) := by decide +kernel
theorem dX7_write_49 : decode cX7_write 49 = .ok (.iaload, 1) := by decide +kernel
theorem dX7_write_50 : decode cX7_write 50 = .ok (.invokevirtual 239, 3) := by decide +kernel
theorem dX7_write_53 : decode cX7_write 53 = .ok (.aload_n 0, 1) := by decide +kernel
theorem dX7_write_54 : decode cX7_write 54 = .ok (.aload_n 0, 1) := by decide +kernel
theorem dX7_write_55 : decode cX7_write 55 = .ok (.getfield 53, 3) := by decide +kernel
theorem dX7_write_58 : decode cX7_write 58 = .ok (.iload_n 1, 1) := by decide +kernel
theorem dX7_write_59 : decode cX7_write 59 = .ok (.iaload, 1) := by decide +kernel
theorem dX7_write_60 : decode cX7_write 60 = .ok (.invokevirtual 239, 3) := by decide +kernel
theorem dX7_write_63 : decode cX7_write 63 = .ok (.aload_n 0, 1) := by decide +kernel
theorem dX7_write_64 : decode cX7_write 64 = .ok (.getfield 71, 3) := by decide +kernel
theorem dX7_write_67 : decode cX7_write 67 = .ok (.aload_n 0, 1) := by decide +kernel
theorem dX7_write_68 : decode cX7_write 68 = .ok (.dup, 1) := by decide +kernel
theorem dX7_write_69 : decode cX7_write 69 = .ok (.getfield 236, 3) := by decide +kernel
theorem dX7_write_72 : decode cX7_write 72 = .ok (.dup_x1, 1) := by decide +kernel
theorem dX7_write_73 : decode cX7_write 73 = .ok (.iconst 1, 1) := by decide +kernel
theorem dX7_write_74 : decode cX7_write 74 = .ok (.iadd, 1) := by decide +kernel
theorem dX7_write_75 : decode cX7_write 75 = .ok (.putfield 236, 3) := by decide +kernel
theorem dX7_write_78 : decode cX7_write 78 = .ok (.bipush 41, 2) := by decide +kernel
theorem dX7_write_80 : decode cX7_write 80 = .ok (.iastore, 1) := by decide +kernel
theorem dX7_write_81 : decode cX7_write 81 = .ok (.return_, 1) := by decide +kernel
theorem dX7_written_0 : decode cX7_written 0 = .ok (.aload_n 0, 1) := by decide +kernel
theorem dX7_written_1 : decode cX7_written 1 = .ok (.aload_n 0, 1) := by decide +kernel
theorem dX7_written_2 : decode cX7_written 2 = .ok (.getfield 118, 3) := by decide +kernel
theorem dX7_written_5 : decode cX7_written 5 = .ok (.aload_n 0, 1) := by decide +kernel
theorem dX7_written_6 : decode cX7_written 6 = .ok (.getfield 9, 3) := by decide +kernel
theorem dX7_written_9 : decode cX7_written 9 = .ok (.invokevirtual 110, 3) := by decide +kernel
theorem dX7_written_12 : decode cX7_written 12 = .ok (.aload_n 0, 1) := by decide +kernel
theorem dX7_written_13 : decode cX7_written 13 = .ok (.iconst 0, 1) := by decide +kernel
theorem dX7_written_14 : decode cX7_written 14 = .ok (.putfield 236, 3) := by decide +kernel
theorem dX7_written_17 : decode cX7_written 17 = .ok (.aload_n 0, 1) := by decide +kernel
theorem dX7_written_18 : decode cX7_written 18 = .ok (.aload_n 0, 1) := by decide +kernel
theorem dX7_written_19 : decode cX7_written 19 = .ok (.getfield 107, 3) := by decide +kernel
theorem dX7_written_22 : decode cX7_written 22 = .ok (.invokevirtual 239, 3) := by decide +kernel
theorem dX7_written_25 : decode cX7_written 25 = .ok (.iload_n 1, 1) := by decide +kernel
theorem dX7_written_26 : decode cX7_written 26 = .ok (.iconst (-1), 1) := by decide +kernel
theorem dX7_written_27 : decode cX7_written 27 = .ok (.if_icmp .ne 8, 3) := by decide +kernel
theorem dX7_written_30 : decode cX7_written 30 = .ok (.aload_n 0, 1) := by decide +kernel
theorem dX7_written_31 : decode cX7_written 31 = .ok (.getfield 236, 3) := by decide +kernel
theorem dX7_written_34 : decode cX7_written 34 = .ok (.ireturn, 1) := by decide +kernel
theorem dX7_written_35 : decode cX7_written 35 = .ok (.iload_n 1, 1) := by decide +kernel
theorem dX7_written_36 : decode cX7_written 36 = .ok (.i2l, 1) := by decide +kernel
theorem dX7_written_37 : decode cX7_written 37 = .ok (.lconst 0, 1) := by decide +kernel
theorem dX7_written_38 : decode cX7_written 38 = .ok (.aload_n 0, 1) := by decide +kernel
theorem dX7_written_39 : decode cX7_written 39 = .ok (.getfield 236, 3) := by decide +kernel
theorem dX7_written_42 : decode cX7_written 42 = .ok (.iconst 1, 1) := by decide +kernel
theorem dX7_written_43 : decode cX7_written 43 = .ok (.isub, 1) := by decide +kernel
theorem dX7_written_44 : decode cX7_written 44 = .ok (.i2l, 1) := by decide +kernel
theorem dX7_written_45 : decode cX7_written 45 = .ok (.invokestatic 85, 3) := by decide +kernel
theorem dX7_written_48 : decode cX7_written 48 = .ok (.ifCond .eq 12, 3) := by decide +kernel
theorem dX7_written_51 : decode cX7_written 51 = .ok (.aload_n 0, 1) := by decide +kernel
theorem dX7_written_52 : decode cX7_written 52 = .ok (.getfield 71, 3) := by decide +kernel
theorem dX7_written_55 : decode cX7_written 55 = .ok (.iload_n 1, 1) := by decide +kernel
theorem dX7_written_56 : decode cX7_written 56 = .ok (.iaload, 1) := by decide +kernel
theorem dX7_written_57 : decode cX7_written 57 = .ok (.goto 4, 3) := by decide +kernel
theorem dX7_written_60 : decode cX7_written 60 = .ok (.iconst (-1), 1) := by decide +kernel
theorem dX7_written_61 : decode cX7_written 61 = .ok (.ireturn, 1) := by decide +kernel
theorem dX7_image_0 : decode cX7_image 0 = .ok (.aload_n 0, 1) := by decide +kernel
theorem dX7_image_1 : decode cX7_image 1 = .ok (.iconst 1, 1) := by decide +kernel
theorem dX7_image_2 : decode cX7_image 2 = .ok (.putfield 242, 3) := by decide +kernel
theorem dX7_image_5 : decode cX7_image 5 = .ok (.aload_n 0, 1) := by decide +kernel
theorem dX7_image_6 : decode cX7_image 6 = .ok (.aload_n 0, 1) := by decide +kernel
theorem dX7_image_7 : decode cX7_image 7 = .ok (.getfield 9, 3) := by decide +kernel
theorem dX7_image_10 : decode cX7_image 10 = .ok (.putfield 246, 3) := by decide +kernel
theorem dX7_image_13 : decode cX7_image 13 = .ok (.aload_n 0, 1) := by decide +kernel
theorem dX7_image_14 : decode cX7_image 14 = .ok (.aload_n 0, 1) := by decide +kernel
theorem dX7_image_15 : decode cX7_image 15 = .ok (.getfield 118, 3) := by decide +kernel
theorem dX7_image_18 : decode cX7_image 18 = .ok (.putfield 249, 3) := by decide +kernel
theorem dX7_image_21 : decode cX7_image 21 = .ok (.iconst 0, 1) := by decide +kernel
theorem dX7_image_22 : decode cX7_image 22 = .ok (.istore_n 1, 1) := by decide +kernel
theorem dX7_image_23 : decode cX7_image 23 = .ok (.iload_n 1, 1) := by decide +kernel
theorem dX7_image_24 : decode cX7_image 24 = .ok (.iconst 4, 1) := by decide +kernel
theorem dX7_image_25 : decode cX7_image 25 = .ok (.if_icmp .ge 33, 3) := by decide +kernel
theorem dX7_image_28 : decode cX7_image 28 = .ok (.aload_n 0, 1) := by decide +kernel
theorem dX7_image_29 : decode cX7_image 29 = .ok (.getfield 38, 3) := by decide +kernel
theorem dX7_image_32 : decode cX7_image 32 = .ok (.iload_n 1, 1) := by decide +kernel
theorem dX7_image_33 : decode cX7_image 33 = .ok (.aload_n 0, 1) := by decide +kernel
theorem dX7_image_34 : decode cX7_image 34 = .ok (.getfield 15, 3) := by decide +kernel
theorem dX7_image_37 : decode cX7_image 37 = .ok (.iload_n 1, 1) := by decide +kernel
theorem dX7_image_38 : decode cX7_image 38 = .ok (.iaload, 1) := by decide +kernel
theorem dX7_image_39 : decode cX7_image 39 = .ok (.iastore, 1) := by decide +kernel
theorem dX7_image_40 : decode cX7_image 40 = .ok (.aload_n 0, 1) := by decide +kernel
theorem dX7_image_41 : decode cX7_image 41 = .ok (.getfield 41, 3) := by decide +kernel
theorem dX7_image_44 : decode cX7_image 44 = .ok (.iload_n 1, 1) := by decide +kernel
theorem dX7_image_45 : decode cX7_image 45 = .ok (.aload_n 0, 1) := by decide +kernel
theorem dX7_image_46 : decode cX7_image 46 = .ok (.getfield 19, 3) := by decide +kernel
theorem dX7_image_49 : decode cX7_image 49 = .ok (.iload_n 1, 1) := by decide +kernel
theorem dX7_image_50 : decode cX7_image 50 = .ok (.iaload, 1) := by decide +kernel
theorem dX7_image_51 : decode cX7_image 51 = .ok (.iastore, 1) := by decide +kernel
theorem dX7_image_52 : decode cX7_image 52 = .ok (.iinc 1 1, 3) := by decide +kernel
theorem dX7_image_55 : decode cX7_image 55 = .ok (.goto (-32), 3) := by decide +kernel
theorem dX7_image_58 : decode cX7_image 58 = .ok (.aload_n 0, 1) := by decide +kernel
theorem dX7_image_59 : decode cX7_image 59 = .ok (.getfield 9, 3) := by decide +kernel
theorem dX7_image_62 : decode cX7_image 62 = .ok (.ireturn, 1) := by decide +kernel
theorem dX7_undo_0 : decode cX7_undo 0 = .ok (.aload_n 0, 1) := by decide +kernel
theorem dX7_undo_1 : decode cX7_undo 1 = .ok (.getfield 242, 3) := by decide +kernel
theorem dX7_undo_4 : decode cX7_undo 4 = .ok (.ifCond .ne 6, 3) := by decide +kernel
theorem dX7_undo_7 : decode cX7_undo 7 = .ok (.bipush (-3), 2) := by decide +kernel
theorem dX7_undo_9 : decode cX7_undo 9 = .ok (.ireturn, 1) := by decide +kernel
theorem dX7_undo_10 : decode cX7_undo 10 = .ok (.aload_n 0, 1) := by decide +kernel
theorem dX7_undo_11 : decode cX7_undo 11 = .ok (.aload_n 0, 1) := by decide +kernel
theorem dX7_undo_12 : decode cX7_undo 12 = .ok (.getfield 246, 3) := by decide +kernel
theorem dX7_undo_15 : decode cX7_undo 15 = .ok (.putfield 9, 3) := by decide +kernel
theorem dX7_undo_18 : decode cX7_undo 18 = .ok (.aload_n 0, 1) := by decide +kernel
theorem dX7_undo_19 : decode cX7_undo 19 = .ok (.aload_n 0, 1) := by decide +kernel
theorem dX7_undo_20 : decode cX7_undo 20 = .ok (.getfield 249, 3) := by decide +kernel
theorem dX7_undo_23 : decode cX7_undo 23 = .ok (.putfield 118, 3) := by decide +kernel
theorem dX7_undo_26 : decode cX7_undo 26 = .ok (.iconst 0, 1) := by decide +kernel
theorem dX7_undo_27 : decode cX7_undo 27 = .ok (.istore_n 1, 1) := by decide +kernel
theorem dX7_undo_28 : decode cX7_undo 28 = .ok (.iload_n 1, 1) := by decide +kernel
theorem dX7_undo_29 : decode cX7_undo 29 = .ok (.iconst 4, 1) := by decide +kernel
theorem dX7_undo_30 : decode cX7_undo 30 = .ok (.if_icmp .ge 33, 3) := by decide +kernel
theorem dX7_undo_33 : decode cX7_undo 33 = .ok (.aload_n 0, 1) := by decide +kernel
theorem dX7_undo_34 : decode cX7_undo 34 = .ok (.getfield 15, 3) := by decide +kernel
theorem dX7_undo_37 : decode cX7_undo 37 = .ok (.iload_n 1, 1) := by decide +kernel
theorem dX7_undo_38 : decode cX7_undo 38 = .ok (.aload_n 0, 1) := by decide +kernel
theorem dX7_undo_39 : decode cX7_undo 39 = .ok (.getfield 38, 3) := by decide +kernel
theorem dX7_undo_42 : decode cX7_undo 42 = .ok (.iload_n 1, 1) := by decide +kernel
theorem dX7_undo_43 : decode cX7_undo 43 = .ok (.iaload, 1) := by decide +kernel
theorem dX7_undo_44 : decode cX7_undo 44 = .ok (.iastore, 1) := by decide +kernel
theorem dX7_undo_45 : decode cX7_undo 45 = .ok (.aload_n 0, 1) := by decide +kernel
theorem dX7_undo_46 : decode cX7_undo 46 = .ok (.getfield 19, 3) := by decide +kernel
theorem dX7_undo_49 : decode cX7_undo 49 = .ok (.iload_n 1, 1) := by decide +kernel
theorem dX7_undo_50 : decode cX7_undo 50 = .ok (.aload_n 0, 1) := by decide +kernel
theorem dX7_undo_51 : decode cX7_undo 51 = .ok (.getfield 41, 3) := by decide +kernel
theorem dX7_undo_54 : decode cX7_undo 54 = .ok (.iload_n 1, 1) := by decide +kernel
theorem dX7_undo_55 : decode cX7_undo 55 = .ok (.iaload, 1) := by decide +kernel
theorem dX7_undo_56 : decode cX7_undo 56 = .ok (.iastore, 1) := by decide +kernel
theorem dX7_undo_57 : decode cX7_undo 57 = .ok (.iinc 1 1, 3) := by decide +kernel
theorem dX7_undo_60 : decode cX7_undo 60 = .ok (.goto (-32), 3) := by decide +kernel
theorem dX7_undo_63 : decode cX7_undo 63 = .ok (.aload_n 0, 1) := by decide +kernel
theorem dX7_undo_64 : decode cX7_undo 64 = .ok (.iconst 0, 1) := by decide +kernel
theorem dX7_undo_65 : decode cX7_undo 65 = .ok (.putfield 121, 3) := by decide +kernel
theorem dX7_undo_68 : decode cX7_undo 68 = .ok (.aload_n 0, 1) := by decide +kernel
theorem dX7_undo_69 : decode cX7_undo 69 = .ok (.getfield 9, 3) := by decide +kernel
theorem dX7_undo_72 : decode cX7_undo 72 = .ok (.ireturn, 1) := by decide +kernel
theorem dX7_count_0 : decode cX7_count 0 = .ok (.iconst 0, 1) := by decide +kernel
theorem dX7_count_1 : decode cX7_count 1 = .ok (.istore_n 2, 1) := by decide +kernel
theorem dX7_count_2 : decode cX7_count 2 = .ok (.iload_n 1, 1) := by decide +kernel
theorem dX7_count_3 : decode cX7_count 3 = .ok (.tableswitch 102 0 4 #[33, 38, 43, 48, 75], 33) := by decide +kernel
theorem dX7_count_36 : decode cX7_count 36 = .ok (.aload_n 0, 1) := by decide +kernel
theorem dX7_count_37 : decode cX7_count 37 = .ok (.getfield 9, 3) := by decide +kernel
theorem dX7_count_40 : decode cX7_count 40 = .ok (.ireturn, 1) := by decide +kernel
theorem dX7_count_41 : decode cX7_count 41 = .ok (.aload_n 0, 1) := by decide +kernel
theorem dX7_count_42 : decode cX7_count 42 = .ok (.getfield 121, 3) := by decide +kernel
theorem dX7_count_45 : decode cX7_count 45 = .ok (.ireturn, 1) := by decide +kernel
theorem dX7_count_46 : decode cX7_count 46 = .ok (.aload_n 0, 1) := by decide +kernel
theorem dX7_count_47 : decode cX7_count 47 = .ok (.getfield 215, 3) := by decide +kernel
theorem dX7_count_50 : decode cX7_count 50 = .ok (.ireturn, 1) := by decide +kernel
theorem dX7_count_51 : decode cX7_count 51 = .ok (.iconst 0, 1) := by decide +kernel
theorem dX7_count_52 : decode cX7_count 52 = .ok (.istore_n 3, 1) := by decide +kernel
theorem dX7_count_53 : decode cX7_count 53 = .ok (.iload_n 3, 1) := by decide +kernel
theorem dX7_count_54 : decode cX7_count 54 = .ok (.iconst 4, 1) := by decide +kernel
theorem dX7_count_55 : decode cX7_count 55 = .ok (.if_icmp .ge 21, 3) := by decide +kernel
theorem dX7_count_58 : decode cX7_count 58 = .ok (.aload_n 0, 1) := by decide +kernel
theorem dX7_count_59 : decode cX7_count 59 = .ok (.getfield 15, 3) := by decide +kernel
theorem dX7_count_62 : decode cX7_count 62 = .ok (.iload_n 3, 1) := by decide +kernel
theorem dX7_count_63 : decode cX7_count 63 = .ok (.iaload, 1) := by decide +kernel
theorem dX7_count_64 : decode cX7_count 64 = .ok (.ifCond .le 6, 3) := by decide +kernel
theorem dX7_count_67 : decode cX7_count 67 = .ok (.iinc 2 1, 3) := by decide +kernel
theorem dX7_count_70 : decode cX7_count 70 = .ok (.iinc 3 1, 3) := by decide +kernel
theorem dX7_count_73 : decode cX7_count 73 = .ok (.goto (-20), 3) := by decide +kernel
theorem dX7_count_76 : decode cX7_count 76 = .ok (.iload_n 2, 1) := by decide +kernel
theorem dX7_count_77 : decode cX7_count 77 = .ok (.ireturn, 1) := by decide +kernel
theorem dX7_count_78 : decode cX7_count 78 = .ok (.iconst 0, 1) := by decide +kernel
theorem dX7_count_79 : decode cX7_count 79 = .ok (.istore_n 3, 1) := by decide +kernel
theorem dX7_count_80 : decode cX7_count 80 = .ok (.iload_n 3, 1) := by decide +kernel
theorem dX7_count_81 : decode cX7_count 81 = .ok (.iconst 3, 1) := by decide +kernel
theorem dX7_count_82 : decode cX7_count 82 = .ok (.if_icmp .ge 21, 3) := by decide +kernel
theorem dX7_count_85 : decode cX7_count 85 = .ok (.aload_n 0, 1) := by decide +kernel
theorem dX7_count_86 : decode cX7_count 86 = .ok (.getfield 32, 3) := by decide +kernel
theorem dX7_count_89 : decode cX7_count 89 = .ok (.iload_n 3, 1) := by decide +kernel
theorem dX7_count_90 : decode cX7_count 90 = .ok (.iaload, 1) := by decide +kernel
theorem dX7_count_91 : decode cX7_count 91 = .ok (.ifCond .lt 6, 3) := by decide +kernel
theorem dX7_count_94 : decode cX7_count 94 = .ok (.iinc 2 1, 3) := by decide +kernel
theorem dX7_count_97 : decode cX7_count 97 = .ok (.iinc 3 1, 3) := by decide +kernel
theorem dX7_count_100 : decode cX7_count 100 = .ok (.goto (-20), 3) := by decide +kernel
theorem dX7_count_103 : decode cX7_count 103 = .ok (.iload_n 2, 1) := by decide +kernel
theorem dX7_count_104 : decode cX7_count 104 = .ok (.ireturn, 1) := by decide +kernel
theorem dX7_count_105 : decode cX7_count 105 = .ok (.iconst (-1), 1) := by decide +kernel
theorem dX7_count_106 : decode cX7_count 106 = .ok (.ireturn, 1) := by decide +kernel
end
section
/-! ===== BEGIN words of one list among another's, by their places ===== -/
theorem goodIn_r {big : List Cond} (ws : List Cond) (ps : List Nat) (hp : ws = ps.filterMap (fun i => big[i]?)) (h : ws.all goodWord = true) : GoodIn big ws := by
  intro w hw
  have h1 := List.all_eq_true.mp h w hw
  rw [hp] at hw
  obtain ⟨i, -, hi⟩ := List.mem_filterMap.mp hw
  have hm : w ∈ big := by first | exact List.mem_of_getElem? hi | exact List.getElem?_mem hi
  exact ⟨hm, good_of_word h1⟩
theorem goodIn_app {big a b : List Cond} (ha : GoodIn big a) (hb : GoodIn big b) : GoodIn big (a ++ b) := fun w h => (List.mem_append.mp h).elim (ha w) (hb w)
theorem goodIn_ca {big a b : List Cond} {c : Cond} (ha : GoodIn big (c :: a)) (hb : GoodIn big b) : GoodIn big (c :: (a ++ b)) := fun w h => (List.mem_cons.mp h).elim (fun e => ha w (List.mem_cons.mpr (Or.inl e))) (fun h => (List.mem_append.mp h).elim (fun h => ha w (List.mem_cons.mpr (Or.inr h))) (hb w))
theorem goodIn_sub {big ws : List Cond} (hm : ∀ w ∈ ws, w ∈ big) (h : ws.all goodWord = true) : GoodIn big ws := fun w hw => ⟨hm w hw, good_of_word (List.all_eq_true.mp h w hw)⟩
/-! ===== END ===== -/
end
section

def lw_gd : List Cond := lw_tbl.filter goodWord
/-! the memory: rows of ints, rows of longs, single ints; a world is a function of it -/
abbrev Mm : Type := (Nat → Nat → Int32) × (Nat → Nat → Int64) × (Nat → Int32)
def pu {α : Type} (f : Nat → α) : List (Nat × α) → Nat → α
  | [], k => f k
  | (i, v) :: l, k => if k = i then v else pu f l k
def rp {α : Type} : List (Nat × α) → Nat → α → List (Nat × α)
  | [], _, _ => []
  | (i, v) :: l, q, f => if i = q then (i, f) :: l else (i, v) :: rp l q f
def hk {α : Type} : List (Nat × α) → Nat → Bool
  | [], _ => false
  | (i, _) :: l, q => (i == q) || hk l q
def mg {α : Type} (l : List (Nat × α)) : List (Nat × α) → List (Nat × α)
  | [] => l
  | (q, f) :: r => rp (mg l r) q f
theorem pu_rp {α : Type} (g : Nat → α) (q : Nat) (f : α) : ∀ (l : List (Nat × α)), hk l q = true → pu (pu g l) [(q, f)] = pu g (rp l q f)
  | [], h => by simp [hk] at h
  | (i, v) :: l, h => by
    funext k
    by_cases hi : i = q
    · subst hi
      simp only [pu, rp, if_true]
      by_cases hk1 : k = i <;> simp [hk1, pu]
    · have hq : hk l q = true := by simpa [hk, hi] using h
      have ih := congrFun (pu_rp g q f l hq) k
      simp only [pu] at ih
      simp only [pu, rp, if_neg hi]
      rw [← ih]
      by_cases hk1 : k = q
      · have : k ≠ i := fun e => hi (e.symm.trans hk1)
        simp [hk1, Ne.symm hi]
      · simp [hk1]
theorem hk_rp {α : Type} (q : Nat) (f : α) (z : Nat) : ∀ (l : List (Nat × α)), hk (rp l q f) z = hk l z
  | [] => rfl
  | (i, v) :: l => by
    by_cases hi : i = q
    · simp [rp, hi, hk]
    · simp [rp, hi, hk, hk_rp q f z l]
theorem hk_mg {α : Type} (l : List (Nat × α)) (z : Nat) : ∀ (r : List (Nat × α)), hk (mg l r) z = hk l z
  | [] => rfl
  | (q, f) :: r => by rw [mg, hk_rp, hk_mg l z r]
theorem pu_mg {α : Type} (g : Nat → α) (l : List (Nat × α)) : ∀ (r : List (Nat × α)), r.all (fun e => hk l e.1) = true → pu (pu g l) r = pu g (mg l r)
  | [], _ => by funext k; rfl
  | (q, f) :: r, h => by
    simp only [List.all_cons, Bool.and_eq_true] at h
    have ih := pu_mg g l r h.2
    rw [mg, ← pu_rp g q f (mg l r) (by rw [hk_mg]; exact h.1), ← ih]
    funext k
    rfl
theorem pu_self {α : Type} (g : Nat → α) : ∀ (ks : List Nat), pu g (ks.map fun k => (k, g k)) = g
  | [] => by funext k; rfl
  | i :: ks => by
    funext k
    have ih := congrFun (pu_self g ks) k
    simp only [List.map_cons, pu]
    by_cases h : k = i
    · simp [h]
    · rw [if_neg h]; exact ih
def tyL (ct : Nat → ClassId) : List (ClassId × FieldType) := [(ct 0, .int), (ct 1, .long), (ct 2, .boolean), (ct 3, .array .long)]
def fiL : List Int32 := [0, 1, 2, 4, 9, 23, 65, 197, 626]
def fiF (j : Nat) : Int32 := fiL.getD j 0
def FS (tF : Nat) (A : Nat → Prop) (U : State) (H : Heap) : Prop := va_Z "LeaningTrees$Forest" "FIRST" "[I" (.ref tF) A U H ∧ va_T .int tF 9 (fun j => .int (fiF j)) A U H
/-! what a method's text is, as a function -/
def rd {α : Type} (n : Nat) (f : Nat → α) (i : Int32) : Option α := if i < 0 ∨ n ≤ i.toNatClampNeg then none else some (f i.toNatClampNeg)
def wr (n : Nat) (f : Nat → Int32) (i x : Int32) : Option (Nat → Int32) := if i < 0 ∨ n ≤ i.toNatClampNeg then none else some (upd f i.toNatClampNeg x)
def wrL (n : Nat) (f : Nat → Int64) (i : Int32) (x : Int64) : Option (Nat → Int64) := if i < 0 ∨ n ≤ i.toNatClampNeg then none else some (vp_updL f i.toNatClampNeg x)
def dvo (x y : Int32) : Option Int32 := if y = 0 then none else some (x / y)
def rmo (x y : Int32) : Option Int32 := if y = 0 then none else some (x - x / y * y)
def zro (x : Int32) : Option Int32 := if x = 0 ∨ x = 1 then some x else none
def ixo (n : Nat) (i : Int32) : Option Nat := if i < 0 ∨ n ≤ i.toNatClampNeg then none else some i.toNatClampNeg
def cpo (n0 n1 : Nat) (f g : Nat → Int32) (sp dp n : Int32) : Option (Nat → Int32) := if (sp < 0 ∨ dp < 0) ∨ n < 0 ∨ n0 < sp.toNatClampNeg + n.toNatClampNeg ∨ n1 < dp.toNatClampNeg + n.toNatClampNeg then none else some (va_cpy f g sp.toNatClampNeg dp.toNatClampNeg n.toNatClampNeg)
def fillF {α : Type} (n : Nat) (v : α) (f : Nat → α) : Nat → α := fun j => if j < n then v else f j
def it {X Y : Type} (B : X → Option (X ⊕ Y)) : Nat → X → Option Y
  | 0, _ => none
  | n + 1, x => (B x).bind (Sum.elim (it B n) some)
def FU : Nat := 100000000
theorem rd_ok {α : Type} {n : Nat} {f : Nat → α} {i : Int32} {v : α} (h : rd n f i = some v) : vp_in i n ∧ f i.toNatClampNeg = v := by
  unfold rd at h
  split at h
  · cases h
  · next q => exact ⟨q, Option.some.inj h⟩
theorem wr_ok {n : Nat} {f g : Nat → Int32} {i x : Int32} (h : wr n f i x = some g) : vp_in i n ∧ upd f i.toNatClampNeg x = g := by
  unfold wr at h
  split at h
  · cases h
  · next q => exact ⟨q, Option.some.inj h⟩
theorem wrL_ok {n : Nat} {f g : Nat → Int64} {i : Int32} {x : Int64} (h : wrL n f i x = some g) : vp_in i n ∧ vp_updL f i.toNatClampNeg x = g := by
  unfold wrL at h
  split at h
  · cases h
  · next q => exact ⟨q, Option.some.inj h⟩
theorem ixo_ok {n : Nat} {i : Int32} {v : Nat} (h : ixo n i = some v) : vp_in i n ∧ i.toNatClampNeg = v ∧ v < n := by
  unfold ixo at h
  split at h
  · cases h
  · next q =>
    cases h
    exact ⟨q, rfl, Nat.not_le.mp fun z => q (Or.inr z)⟩
theorem cpo_ok {n0 n1 : Nat} {f g g2 : Nat → Int32} {sp dp n : Int32} (h : cpo n0 n1 f g sp dp n = some g2) : ((¬ sp < 0 ∧ ¬ dp < 0) ∧ ¬ n < 0 ∧ sp.toNatClampNeg + n.toNatClampNeg ≤ n0 ∧ dp.toNatClampNeg + n.toNatClampNeg ≤ n1) ∧ va_cpy f g sp.toNatClampNeg dp.toNatClampNeg n.toNatClampNeg = g2 := by
  unfold cpo at h
  split at h
  · cases h
  · next q =>
    refine ⟨⟨⟨fun z => q (Or.inl (Or.inl z)), fun z => q (Or.inl (Or.inr z))⟩, fun z => q (Or.inr (Or.inl z)), Nat.not_lt.mp fun z => q (Or.inr (Or.inr (Or.inl z))), Nat.not_lt.mp fun z => q (Or.inr (Or.inr (Or.inr z)))⟩, Option.some.inj h⟩
theorem dvo_ok {x y v : Int32} (h : dvo x y = some v) : ¬ y = 0 ∧ x / y = v := by
  unfold dvo at h
  split at h
  · cases h
  · next q => exact ⟨q, Option.some.inj h⟩
theorem rmo_ok {x y v : Int32} (h : rmo x y = some v) : ¬ y = 0 ∧ x - x / y * y = v := by
  unfold rmo at h
  split at h
  · cases h
  · next q => exact ⟨q, Option.some.inj h⟩
theorem zro_ok {x v : Int32} (h : zro x = some v) : x = v ∧ narrow .boolean (.int v) = .int v := by
  unfold zro at h
  split at h
  · next q =>
    cases h
    exact ⟨rfl, by rcases q with q | q <;> subst q <;> rfl⟩
  · cases h
theorem ob {α β : Type} {o : Option α} {f : α → Option β} {b : β} (h : o.bind f = some b) : ∃ a, o = some a ∧ f a = some b := by
  cases o with
  | none => cases h
  | some a => exact ⟨a, rfl, h⟩
theorem it_Z {X Y : Type} {B : X → Option (X ⊕ Y)} {Zh : X → Prop} {Ze : Y → Prop} (hB : ∀ x s, B x = some s → Sum.elim Zh Ze s → Zh x) : ∀ (n : Nat) (x : X) (y : Y), it B n x = some y → Ze y → Zh x
  | 0, x, y, h, _ => by cases h
  | n + 1, x, y, h, hy => by
    obtain ⟨s, hs, h⟩ := ob h
    refine hB x s hs ?_
    cases s with
    | inl x' => exact it_Z hB n x' y h hy
    | inr y' => cases h; exact hy
/-! the run of a method: program, launch, env, room, start, method, arguments, below, method's record, code, D, world, free cells, cells, slots, end -/
abbrev Rx : Type := Program × Launch × Env × Room × State × MethodId × Array Value × List Frame × Method × Code × va_G × (Mm → va_W) × (Nat → Prop) × Nat × Nat × (State → Prop)
abbrev kp (κ : Rx) : Program := κ.1
abbrev kl (κ : Rx) : Launch := κ.2.1
abbrev ke (κ : Rx) : Env := κ.2.2.1
abbrev kR (κ : Rx) : Room := κ.2.2.2.1
abbrev ks (κ : Rx) : State := κ.2.2.2.2.1
abbrev km (κ : Rx) : MethodId := κ.2.2.2.2.2.1
abbrev ka (κ : Rx) : Array Value := κ.2.2.2.2.2.2.1
abbrev kb (κ : Rx) : List Frame := κ.2.2.2.2.2.2.2.1
abbrev kme (κ : Rx) : Method := κ.2.2.2.2.2.2.2.2.1
abbrev kc (κ : Rx) : Code := κ.2.2.2.2.2.2.2.2.2.1
abbrev kD (κ : Rx) : va_G := κ.2.2.2.2.2.2.2.2.2.2.1
abbrev kw (κ : Rx) : Mm → va_W := κ.2.2.2.2.2.2.2.2.2.2.2.1
abbrev kA (κ : Rx) : Nat → Prop := κ.2.2.2.2.2.2.2.2.2.2.2.2.1
abbrev kn (κ : Rx) : Nat := κ.2.2.2.2.2.2.2.2.2.2.2.2.2.1
abbrev ko (κ : Rx) : Nat := κ.2.2.2.2.2.2.2.2.2.2.2.2.2.2.1
abbrev kQ (κ : Rx) : State → Prop := κ.2.2.2.2.2.2.2.2.2.2.2.2.2.2.2
abbrev Wk (κ : Rx) (H : Heap) (locs : List Loc) (g : JFrame) : Prop := W (kp κ) (kl κ) (ke κ) (kR κ) (ks κ) (km κ) (ka κ) (kb κ) (kme κ) (kc κ) H locs (kn κ) (ko κ) (kQ κ) g
def Zj (κ : Rx) (nL pc : Nat) (lv : List (Nat × Value)) (st : List Value) (M : Mm) : Prop :=
  ∀ (H : Heap) (locs : List Loc) (ls : Array Slot), va_P (kD κ) vwCl (kw κ M) H → va_D (kA κ) (kw κ M) → va_S (kA κ) (ks κ).heap H locs → lv_has ls nL lv → Wk κ H locs (F0 (km κ) pc ls st)
def CX (κ : Rx) (ct : Nat → ClassId) (tF : Nat) (cc : ByteArray) (nL : Nat) (own : String) : Prop :=
  (kp κ).tables.exec = Jvm.exec ∧ (kc κ).code = cc ∧ (kc κ).maxLocals = nL ∧ (ks κ).vm.findClass own = some (km κ).cls ∧ (∀ w ∈ lw_gd, w.before (ka κ) (ks κ) = true) ∧ va_K (kD κ) vwCl (tyL ct) (ks κ) ∧ FS tF (kA κ) (ks κ) (ks κ).heap ∧ (kn κ ≤ (kR κ).cells ∧ ko κ ≤ (kR κ).slots)
/-- the end of a method that answers an int, a long, nothing -/
def ZI (κ : Rx) (cc : ByteArray) (rt : FieldType) (r : Int32) (M : Mm) : Prop :=
  ∀ (H : Heap) (locs : List Loc) (ls : Array Slot) (pc : Nat), va_P (kD κ) vwCl (kw κ M) H → va_D (kA κ) (kw κ M) → va_S (kA κ) (ks κ).heap H locs → decode cc pc = .ok (.ireturn, 1) → narrow rt (.int r) = .int r → Wk κ H locs (F0 (km κ) pc ls [.int r])
def ZL (κ : Rx) (cc : ByteArray) (r : Int64) (M : Mm) : Prop :=
  ∀ (H : Heap) (locs : List Loc) (ls : Array Slot) (pc : Nat), va_P (kD κ) vwCl (kw κ M) H → va_D (kA κ) (kw κ M) → va_S (kA κ) (ks κ).heap H locs → decode cc pc = .ok (.lreturn, 1) → Wk κ H locs (F0 (km κ) pc ls [.long r])
def ZV (κ : Rx) (cc : ByteArray) (M : Mm) : Prop :=
  ∀ (H : Heap) (locs : List Loc) (ls : Array Slot) (pc : Nat), va_P (kD κ) vwCl (kw κ M) H → va_D (kA κ) (kw κ M) → va_S (kA κ) (ks κ).heap H locs → decode cc pc = .ok (.return_, 1) → Wk κ H locs (F0 (km κ) pc ls [])
/-- what a call of a method of ours needs and gives -/
def CP (D : va_G) (ct : Nat → ClassId) (tF : Nat) (wOf : Mm → va_W) (A : Nat → Prop) (M : Mm) (U : State) : Prop := va_P D vwCl (wOf M) U.heap ∧ va_K D vwCl (tyL ct) U ∧ va_D A (wOf M) ∧ FS tF A U U.heap
def CtI (l : Launch) (y : MethodName) (cc : ByteArray) (nL : Nat) (rt : FieldType) (rm : Room) (D : va_G) (ct : Nat → ClassId) (tF : Nat) (wOf : Mm → va_W) (as : List Value) (M : Mm) (r : Int32) (M' : Mm) : Prop :=
  ∀ A : Nat → Prop, Met l y (.code y cc nL (some rt) :: lw_gd) rm (va_Pc as (CP D ct tF wOf A M)) (va_Qi (fun r' (_ : Unit) => r' = r) (fun _ t => va_P D vwCl (wOf M') t.heap ∧ va_D A (wOf M')) A) 0 0 A
def CtL (l : Launch) (y : MethodName) (cc : ByteArray) (nL : Nat) (rm : Room) (D : va_G) (ct : Nat → ClassId) (tF : Nat) (wOf : Mm → va_W) (as : List Value) (M : Mm) (r : Int64) (M' : Mm) : Prop :=
  ∀ A : Nat → Prop, Met l y (.code y cc nL (some .long) :: lw_gd) rm (va_Pc as (CP D ct tF wOf A M)) (va_Ql (fun r' (_ : Unit) => r' = r) (fun _ t => va_P D vwCl (wOf M') t.heap ∧ va_D A (wOf M')) A) 0 0 A
def CtV (l : Launch) (y : MethodName) (cc : ByteArray) (nL : Nat) (rm : Room) (D : va_G) (ct : Nat → ClassId) (tF : Nat) (wOf : Mm → va_W) (as : List Value) (M : Mm) (M' : Mm) : Prop :=
  ∀ A : Nat → Prop, Met l y (.code y cc nL none :: lw_gd) rm (va_Pc as (CP D ct tF wOf A M)) (va_Qv (fun (_ : Unit) => True) (fun _ t => va_P D vwCl (wOf M') t.heap ∧ va_D A (wOf M')) A) 0 0 A
theorem CP_blind (D : va_G) (ct : Nat → ClassId) (tF : Nat) (wOf : Mm → va_W) (A : Nat → Prop) (M : Mm) (as : List Value) : FrameBlind (va_Pc as (CP D ct tF wOf A M)) := by
  intro a U g mk q
  obtain ⟨q0, qP, qK, qD, q1, q2⟩ := q
  exact ⟨q0, qP, va_K.moved (u := U) (U := U.calling g mk a) (Vm.Alike.refl U.vm) qK, qD, va_Z.moved (u := U) (U := U.calling g mk a) (Vm.Alike.refl U.vm) q1, va_T.moved (u := U) (U := U.calling g mk a) (Vm.Alike.refl U.vm) q2⟩
theorem CP_at {κ : Rx} {ct : Nat → ClassId} {tF : Nat} {cc : ByteArray} {nL : Nat} {own : String} (X : CX κ ct tF cc nL own) {H : Heap} {locs : List Loc} {M : Mm} (hP : va_P (kD κ) vwCl (kw κ M) H) (hD : va_D (kA κ) (kw κ M)) (hS : va_S (kA κ) (ks κ).heap H locs) (U : State) (hU : U.heap = H) (hW : (ks κ).WarmedH U.vm) : CP (kD κ) ct tF (kw κ) (kA κ) M U := by
  subst hU
  have hk : ∀ a : Nat, a < (ks κ).heap.size → ¬ kA κ a → U.heap[a]? = (ks κ).heap[a]? := fun a h1 h2 => hS.2.1 a h1 h2
  exact ⟨hP, va_K.moved hW.alike X.2.2.2.2.2.1, hD, (va_Z.moved hW.alike X.2.2.2.2.2.2.1.1).kept hk, (va_T.moved hW.alike X.2.2.2.2.2.2.1.2).kept hk⟩
theorem metI {l : Launch} {y : MethodName} {cc : ByteArray} {nL : Nat} {rt : FieldType} {rm : Room} {D : va_G} {ct : Nat → ClassId} {tF : Nat} {wOf : Mm → va_W} {as : List Value} {M M' : Mm} {r : Int32} (hy : plainName y.cls = true) (hlen : (lg_sl as).length ≤ nL)
    (body : ∀ κ : Rx, CX κ ct tF cc nL y.cls → kl κ = l → kR κ = rm → kD κ = D → kw κ = wOf → ZI κ cc rt r M' → Zj κ nL 0 (lv_args 0 as) [] M) : CtI l y cc nL rt rm D ct tF wOf as M r M' := by
  intro A
  refine Met.ofW (cc := cc) (maxL := nL) (ret := some rt) hy rfl ?_
  intro p e s m args below meth c s₁ B hml hv
  obtain ⟨rfl, hP, hK, hD, hF⟩ := hv
  have hx := B.exec
  have hb := B.bytes
  have hr := B.returns
  have hts := atoms_spec (ws := .code y cc nL (some rt) :: lw_gd) B.pre
  have hown : s.vm.findClass y.cls = some m.cls := findClass_of_methodNamed B.named
  have hlocks := B.notSynchronized
  have hl := lv_entry as (n := nL) hlen
  rw [lg_entry_eq]
  exact body (p, l, e, rm, s, m, as.toArray, below, meth, c, D, wOf, A, 0, 0, MQ below _ as.toArray s 0 0 A) ⟨hx, hb, hml, hown, fun w h => hts w (List.mem_cons_of_mem _ h), hK, hF, Nat.zero_le _, Nat.zero_le _⟩ rfl rfl rfl rfl
    (fun H locs ls pc hP hD hS hd hn => W.zret hx hb hr hn (fun t ht hW => ⟨⟨r, (), rfl, rfl, by rw [ht]; exact hP, hD⟩, hS.F ht⟩) hS.2.2 hd) s.heap [] _ hP hD va_S.rf hl
theorem metL {l : Launch} {y : MethodName} {cc : ByteArray} {nL : Nat} {rm : Room} {D : va_G} {ct : Nat → ClassId} {tF : Nat} {wOf : Mm → va_W} {as : List Value} {M M' : Mm} {r : Int64} (hy : plainName y.cls = true) (hlen : (lg_sl as).length ≤ nL)
    (body : ∀ κ : Rx, CX κ ct tF cc nL y.cls → kl κ = l → kR κ = rm → kD κ = D → kw κ = wOf → ZL κ cc r M' → Zj κ nL 0 (lv_args 0 as) [] M) : CtL l y cc nL rm D ct tF wOf as M r M' := by
  intro A
  refine Met.ofW (cc := cc) (maxL := nL) (ret := some .long) hy rfl ?_
  intro p e s m args below meth c s₁ B hml hv
  obtain ⟨rfl, hP, hK, hD, hF⟩ := hv
  have hx := B.exec
  have hb := B.bytes
  have hr := B.returns
  have hts := atoms_spec (ws := .code y cc nL (some .long) :: lw_gd) B.pre
  have hown : s.vm.findClass y.cls = some m.cls := findClass_of_methodNamed B.named
  have hlocks := B.notSynchronized
  have hl := lv_entry as (n := nL) hlen
  rw [lg_entry_eq]
  exact body (p, l, e, rm, s, m, as.toArray, below, meth, c, D, wOf, A, 0, 0, MQ below _ as.toArray s 0 0 A) ⟨hx, hb, hml, hown, fun w h => hts w (List.mem_cons_of_mem _ h), hK, hF, Nat.zero_le _, Nat.zero_le _⟩ rfl rfl rfl rfl
    (fun H locs ls pc hP hD hS hd => W.lret hx hb hr (fun t ht hW => ⟨⟨r, (), rfl, rfl, by rw [ht]; exact hP, hD⟩, hS.F ht⟩) hS.2.2 hd) s.heap [] _ hP hD va_S.rf hl
theorem metV {l : Launch} {y : MethodName} {cc : ByteArray} {nL : Nat} {rm : Room} {D : va_G} {ct : Nat → ClassId} {tF : Nat} {wOf : Mm → va_W} {as : List Value} {M M' : Mm} (hy : plainName y.cls = true) (hlen : (lg_sl as).length ≤ nL)
    (body : ∀ κ : Rx, CX κ ct tF cc nL y.cls → kl κ = l → kR κ = rm → kD κ = D → kw κ = wOf → ZV κ cc M' → Zj κ nL 0 (lv_args 0 as) [] M) : CtV l y cc nL rm D ct tF wOf as M M' := by
  intro A
  refine Met.ofW (cc := cc) (maxL := nL) (ret := none) hy rfl ?_
  intro p e s m args below meth c s₁ B hml hv
  obtain ⟨rfl, hP, hK, hD, hF⟩ := hv
  have hx := B.exec
  have hb := B.bytes
  have hr := B.returns
  have hts := atoms_spec (ws := .code y cc nL none :: lw_gd) B.pre
  have hown : s.vm.findClass y.cls = some m.cls := findClass_of_methodNamed B.named
  have hlocks := B.notSynchronized
  have hl := lv_entry as (n := nL) hlen
  rw [lg_entry_eq]
  exact body (p, l, e, rm, s, m, as.toArray, below, meth, c, D, wOf, A, 0, 0, MQ below _ as.toArray s 0 0 A) ⟨hx, hb, hml, hown, fun w h => hts w (List.mem_cons_of_mem _ h), hK, hF, Nat.zero_le _, Nat.zero_le _⟩ rfl rfl rfl rfl
    (fun H locs ls pc hP hD hS hd => W.vret hx hb hr (fun t ht hW => ⟨⟨(), rfl, trivial, by rw [ht]; exact hP, hD⟩, hS.F ht⟩) hS.2.2 hd) s.heap [] _ hP hD va_S.rf hl
/-! words -/
theorem lw_gi : GoodIn lw_gd lw_gd := fun w h => ⟨h, good_of_word (List.mem_filter.mp h).2⟩
theorem gd {w : Cond} (h : w ∈ tables_1) (hg : goodWord w = true) : w ∈ lw_gd := List.mem_filter.mpr ⟨List.mem_append_right _ h, hg⟩
theorem gp {w : Cond} (h : w ∈ k2_sels lw_privs) (hg : goodWord w = true) : w ∈ lw_gd := List.mem_filter.mpr ⟨List.mem_append_left _ h, hg⟩
theorem lw_g {w : Cond} (h : w ∈ lw_gd) : w ∈ lw_gd ∧ ((w.onTables && w.keeps) = true ∨ ∃ ty, w = .arrayClass ty) := lw_gi w h
/-- an own method of an object: its words -/
def MV (y : MethodName) (cc : ByteArray) (nL : Nat) (ret : Option FieldType) (C : String) (n : Nat) : Prop :=
  (Cond.instanceMethod y ∈ lw_gd ∧ Cond.selects C y y ∈ lw_gd ∧ Cond.initialized C ∈ lw_gd ∧ Cond.code y cc nL ret ∈ lw_gd) ∧ (y.cls = C ∧ y.cls ≠ "java/lang/invoke/MethodHandle" ∧ y.cls ≠ "java/lang/invoke/VarHandle" ∧ (parseMethodDescriptor y.desc).map (fun d => d.parameters.length) = some n)
def MS (y : MethodName) (cc : ByteArray) (nL : Nat) (ret : Option FieldType) (n : Nat) : Prop :=
  (Cond.static y ∈ lw_gd ∧ Cond.initialized y.cls ∈ lw_gd ∧ Cond.code y cc nL ret ∈ lw_gd) ∧ (y.cls ≠ "java/lang/invoke/MethodHandle" ∧ y.cls ≠ "java/lang/invoke/VarHandle" ∧ (parseMethodDescriptor y.desc).map (fun d => d.parameters.length) = some n)
theorem lw_gc {w : Cond} (h : w ∈ lw_gd) : GoodIn lw_gd (w :: lw_gd) := fun v hv => by
  rcases List.mem_cons.mp hv with rfl | h2
  · exact lw_g h
  · exact lw_g h2
theorem lw_gV {own C : String} {idx : Nat} {y : MethodName} {cc : ByteArray} {nL : Nat} {ret : Option FieldType} {n : Nat} (hm : Cond.methodLink own idx y ∈ lw_gd) (hv : MV y cc nL ret C n) : GoodIn lw_gd (wsV own idx C y (.code y cc nL ret :: lw_gd)) := by
  obtain ⟨⟨h1, h2, h3, h4⟩, -⟩ := hv
  intro v hv
  unfold wsV at hv
  rcases List.mem_append.mp hv with h | h
  · simp only [List.mem_cons, List.not_mem_nil, or_false] at h
    rcases h with rfl | rfl | rfl | rfl
    · exact lw_g hm
    · exact lw_g h1
    · exact lw_g h2
    · exact lw_g h3
  · exact lw_gc h4 v h
theorem lw_gS {own : String} {idx : Nat} {y : MethodName} {cc : ByteArray} {nL : Nat} {ret : Option FieldType} {n : Nat} (hm : Cond.methodLink own idx y ∈ lw_gd) (hv : MS y cc nL ret n) : GoodIn lw_gd (va_wsS own idx y (.code y cc nL ret :: lw_gd)) := by
  obtain ⟨⟨h1, h2, h3⟩, -⟩ := hv
  intro v hv
  unfold va_wsS at hv
  rcases List.mem_append.mp hv with h | h
  · simp only [List.mem_cons, List.not_mem_nil, or_false] at h
    rcases h with rfl | rfl | rfl
    · exact lw_g hm
    · exact lw_g h1
    · exact lw_g h2
  · exact lw_gc h3 v h
section ROWS
variable {κ : Rx} {ct : Nat → ClassId} {tF : Nat} {cc : ByteArray} {nL : Nat} {own : String} {pc : Nat} {lv lv' : List (Nat × Value)} {st : List Value} {M M' : Mm}

theorem z_iconst (X : CX κ ct tF cc nL own) {n : Int} {v : Int32} (hd : decode cc pc = .ok (.iconst n, 1)) (hv : Int32.ofInt n = v) (k : Zj κ nL (pc + 1) lv (.int v :: st) M) : Zj κ nL pc lv (st) M := by
  intro H locs ls hP hD hS hl
  exact lv_iconst X.1 X.2.1 hd hv (k H locs ls hP hD hS hl)
theorem z_bipush (X : CX κ ct tF cc nL own) {n : Int} {v : Int32} (hd : decode cc pc = .ok (.bipush n, 2)) (hv : (Int8.ofInt n).toInt32 = v) (k : Zj κ nL (pc + 2) lv (.int v :: st) M) : Zj κ nL pc lv (st) M := by
  intro H locs ls hP hD hS hl
  exact lv_bipush X.1 X.2.1 hd hv (k H locs ls hP hD hS hl)
theorem z_sipush (X : CX κ ct tF cc nL own) {n : Int} {v : Int32} (hd : decode cc pc = .ok (.sipush n, 3)) (hv : (Int16.ofInt n).toInt32 = v) (k : Zj κ nL (pc + 3) lv (.int v :: st) M) : Zj κ nL pc lv (st) M := by
  intro H locs ls hP hD hS hl
  exact lv_sipush X.1 X.2.1 hd hv (k H locs ls hP hD hS hl)
theorem z_lconst (X : CX κ ct tF cc nL own) {n : Fin 2} {v : Int64} (hd : decode cc pc = .ok (.lconst n, 1)) (hv : Int64.ofNat (n : Nat) = v) (k : Zj κ nL (pc + 1) lv (.long v :: st) M) : Zj κ nL pc lv (st) M := by
  intro H locs ls hP hD hS hl
  exact lv_lconst X.1 X.2.1 hd hv (k H locs ls hP hD hS hl)
theorem z_ldc (X : CX κ ct tF cc nL own) {index : Nat} {v : Int32} (hc : Jvm.Cond.constant own index v ∈ lw_gd) (hd : decode cc pc = .ok (.ldc index, 2)) (k : Zj κ nL (pc + 2) lv (.int v :: st) M) : Zj κ nL pc lv (st) M := by
  intro H locs ls hP hD hS hl
  exact lv_ldc X.1 X.2.1 X.2.2.2.1 (X.2.2.2.2.1 _ hc) hd (k H locs ls hP hD hS hl)
theorem z_ldcw (X : CX κ ct tF cc nL own) {index : Nat} {v : Int32} (hc : Jvm.Cond.constant own index v ∈ lw_gd) (hd : decode cc pc = .ok (.ldc_w index, 3)) (k : Zj κ nL (pc + 3) lv (.int v :: st) M) : Zj κ nL pc lv (st) M := by
  intro H locs ls hP hD hS hl
  exact lv_ldcw X.1 X.2.1 X.2.2.2.1 (X.2.2.2.2.1 _ hc) hd (k H locs ls hP hD hS hl)
theorem z_ldc2 (X : CX κ ct tF cc nL own) {index : Nat} {v : Int64} (hc : Jvm.Cond.constantLong own index v ∈ lw_gd) (hd : decode cc pc = .ok (.ldc2_w index, 3)) (k : Zj κ nL (pc + 3) lv (.long v :: st) M) : Zj κ nL pc lv (st) M := by
  intro H locs ls hP hD hS hl
  exact lv_ldc2 X.1 X.2.1 X.2.2.2.1 (X.2.2.2.2.1 _ hc) hd (k H locs ls hP hD hS hl)
theorem z_iload_n (X : CX κ ct tF cc nL own) {n : Fin 4} {i : Nat} {x : Int32} (hd : decode cc pc = .ok (.iload_n n, 1)) (j : Nat) (hi : (n : Nat) = i) (hj : lv[j]? = some (i, .int x)) (k : Zj κ nL (pc + 1) lv (.int x :: st) M) : Zj κ nL pc lv (st) M := by
  intro H locs ls hP hD hS hl
  exact lv_iload_n X.1 X.2.1 hd hi (lv_at hl j hj) (k H locs ls hP hD hS hl)
theorem z_iload (X : CX κ ct tF cc nL own) {i : Nat} {x : Int32} (hd : decode cc pc = .ok (.iload i, 2)) (j : Nat) (hj : lv[j]? = some (i, .int x)) (k : Zj κ nL (pc + 2) lv (.int x :: st) M) : Zj κ nL pc lv (st) M := by
  intro H locs ls hP hD hS hl
  exact lv_iload X.1 X.2.1 hd (lv_at hl j hj) (k H locs ls hP hD hS hl)
theorem z_istore_n (X : CX κ ct tF cc nL own) {n : Fin 4} {i : Nat} {x : Int32} (hd : decode cc pc = .ok (.istore_n n, 1)) (hi : (n : Nat) = i) (hn : i < nL) (hv : (i, Value.int x) :: lv.filter (fun q => !(q.1 == i) && !(q.1 + 1 == i && q.2.category == 2)) = lv') (k : Zj κ nL (pc + 1) lv' (st) M) : Zj κ nL pc lv (.int x :: st) M := by
  intro H locs ls hP hD hS hl
  exact lv_istore_n X.1 X.2.1 hd hi hl hn hv (fun ls hl => (k H locs ls hP hD hS hl))
theorem z_istore (X : CX κ ct tF cc nL own) {i : Nat} {x : Int32} (hd : decode cc pc = .ok (.istore i, 2)) (hn : i < nL) (hv : (i, Value.int x) :: lv.filter (fun q => !(q.1 == i) && !(q.1 + 1 == i && q.2.category == 2)) = lv') (k : Zj κ nL (pc + 2) lv' (st) M) : Zj κ nL pc lv (.int x :: st) M := by
  intro H locs ls hP hD hS hl
  exact lv_istore X.1 X.2.1 hd hl hn hv (fun ls hl => (k H locs ls hP hD hS hl))
theorem z_lload_n (X : CX κ ct tF cc nL own) {n : Fin 4} {i : Nat} {x : Int64} (hd : decode cc pc = .ok (.lload_n n, 1)) (j : Nat) (hi : (n : Nat) = i) (hj : lv[j]? = some (i, .long x)) (k : Zj κ nL (pc + 1) lv (.long x :: st) M) : Zj κ nL pc lv (st) M := by
  intro H locs ls hP hD hS hl
  exact lv_lload_n X.1 X.2.1 hd hi (lv_at hl j hj) (k H locs ls hP hD hS hl)
theorem z_lload (X : CX κ ct tF cc nL own) {i : Nat} {x : Int64} (hd : decode cc pc = .ok (.lload i, 2)) (j : Nat) (hj : lv[j]? = some (i, .long x)) (k : Zj κ nL (pc + 2) lv (.long x :: st) M) : Zj κ nL pc lv (st) M := by
  intro H locs ls hP hD hS hl
  exact lv_lload X.1 X.2.1 hd (lv_at hl j hj) (k H locs ls hP hD hS hl)
theorem z_lstore_n (X : CX κ ct tF cc nL own) {n : Fin 4} {i : Nat} {x : Int64} (hd : decode cc pc = .ok (.lstore_n n, 1)) (hi : (n : Nat) = i) (hn : i + 1 < nL) (hv : (i, Value.long x) :: lv.filter (fun q => !(q.1 == i) && (!(q.1 == i + 1) && !(q.1 + 1 == i && q.2.category == 2))) = lv') (k : Zj κ nL (pc + 1) lv' (st) M) : Zj κ nL pc lv (.long x :: st) M := by
  intro H locs ls hP hD hS hl
  exact lv_lstore_n X.1 X.2.1 hd hi hl hn hv (fun ls hl => (k H locs ls hP hD hS hl))
theorem z_lstore (X : CX κ ct tF cc nL own) {i : Nat} {x : Int64} (hd : decode cc pc = .ok (.lstore i, 2)) (hn : i + 1 < nL) (hv : (i, Value.long x) :: lv.filter (fun q => !(q.1 == i) && (!(q.1 == i + 1) && !(q.1 + 1 == i && q.2.category == 2))) = lv') (k : Zj κ nL (pc + 2) lv' (st) M) : Zj κ nL pc lv (.long x :: st) M := by
  intro H locs ls hP hD hS hl
  exact lv_lstore X.1 X.2.1 hd hl hn hv (fun ls hl => (k H locs ls hP hD hS hl))
theorem z_aload_n (X : CX κ ct tF cc nL own) {n : Fin 4} {i : Nat} {x : Nat} (hd : decode cc pc = .ok (.aload_n n, 1)) (j : Nat) (hi : (n : Nat) = i) (hj : lv[j]? = some (i, .ref x)) (k : Zj κ nL (pc + 1) lv (.ref x :: st) M) : Zj κ nL pc lv (st) M := by
  intro H locs ls hP hD hS hl
  exact lv_aload_n X.1 X.2.1 hd hi (lv_at hl j hj) (k H locs ls hP hD hS hl)
theorem z_aload (X : CX κ ct tF cc nL own) {i : Nat} {x : Nat} (hd : decode cc pc = .ok (.aload i, 2)) (j : Nat) (hj : lv[j]? = some (i, .ref x)) (k : Zj κ nL (pc + 2) lv (.ref x :: st) M) : Zj κ nL pc lv (st) M := by
  intro H locs ls hP hD hS hl
  exact lv_aload X.1 X.2.1 hd (lv_at hl j hj) (k H locs ls hP hD hS hl)
theorem z_astore_n (X : CX κ ct tF cc nL own) {n : Fin 4} {i : Nat} {x : Nat} (hd : decode cc pc = .ok (.astore_n n, 1)) (hi : (n : Nat) = i) (hn : i < nL) (hv : (i, Value.ref x) :: lv.filter (fun q => !(q.1 == i) && !(q.1 + 1 == i && q.2.category == 2)) = lv') (k : Zj κ nL (pc + 1) lv' (st) M) : Zj κ nL pc lv (.ref x :: st) M := by
  intro H locs ls hP hD hS hl
  exact lv_astore_n X.1 X.2.1 hd hi hl hn hv (fun ls hl => (k H locs ls hP hD hS hl))
theorem z_astore (X : CX κ ct tF cc nL own) {i : Nat} {x : Nat} (hd : decode cc pc = .ok (.astore i, 2)) (hn : i < nL) (hv : (i, Value.ref x) :: lv.filter (fun q => !(q.1 == i) && !(q.1 + 1 == i && q.2.category == 2)) = lv') (k : Zj κ nL (pc + 2) lv' (st) M) : Zj κ nL pc lv (.ref x :: st) M := by
  intro H locs ls hP hD hS hl
  exact lv_astore X.1 X.2.1 hd hl hn hv (fun ls hl => (k H locs ls hP hD hS hl))
theorem z_iinc (X : CX κ ct tF cc nL own) {i : Nat} {n : Int} {x v : Int32} (hd : decode cc pc = .ok (.iinc i n, 3)) (j : Nat) (hj : lv[j]? = some (i, .int x)) (hx : x + Int32.ofInt n = v) (hn : i < nL) (hv : (i, Value.int v) :: lv.filter (fun q => !(q.1 == i) && !(q.1 + 1 == i && q.2.category == 2)) = lv') (k : Zj κ nL (pc + 3) lv' (st) M) : Zj κ nL pc lv (st) M := by
  intro H locs ls hP hD hS hl
  exact lv_iinc X.1 X.2.1 hd hl hj hx hn hv (fun ls hl => (k H locs ls hP hD hS hl))
theorem z_iadd (X : CX κ ct tF cc nL own) {x y : Int32} (hd : decode cc pc = .ok (.iadd, 1)) (k : Zj κ nL (pc + 1) lv (.int (x + y) :: st) M) : Zj κ nL pc lv (.int y :: .int x :: st) M := by
  intro H locs ls hP hD hS hl
  exact lv_iadd X.1 X.2.1 hd (k H locs ls hP hD hS hl)
theorem z_isub (X : CX κ ct tF cc nL own) {x y : Int32} (hd : decode cc pc = .ok (.isub, 1)) (k : Zj κ nL (pc + 1) lv (.int (x - y) :: st) M) : Zj κ nL pc lv (.int y :: .int x :: st) M := by
  intro H locs ls hP hD hS hl
  exact lv_isub X.1 X.2.1 hd (k H locs ls hP hD hS hl)
theorem z_imul (X : CX κ ct tF cc nL own) {x y : Int32} (hd : decode cc pc = .ok (.imul, 1)) (k : Zj κ nL (pc + 1) lv (.int (x * y) :: st) M) : Zj κ nL pc lv (.int y :: .int x :: st) M := by
  intro H locs ls hP hD hS hl
  exact lv_imul X.1 X.2.1 hd (k H locs ls hP hD hS hl)
theorem z_iand (X : CX κ ct tF cc nL own) {x y : Int32} (hd : decode cc pc = .ok (.iand, 1)) (k : Zj κ nL (pc + 1) lv (.int (x &&& y) :: st) M) : Zj κ nL pc lv (.int y :: .int x :: st) M := by
  intro H locs ls hP hD hS hl
  exact lv_iand X.1 X.2.1 hd (k H locs ls hP hD hS hl)
theorem z_ior (X : CX κ ct tF cc nL own) {x y : Int32} (hd : decode cc pc = .ok (.ior, 1)) (k : Zj κ nL (pc + 1) lv (.int (x ||| y) :: st) M) : Zj κ nL pc lv (.int y :: .int x :: st) M := by
  intro H locs ls hP hD hS hl
  exact lv_ior X.1 X.2.1 hd (k H locs ls hP hD hS hl)
theorem z_ixor (X : CX κ ct tF cc nL own) {x y : Int32} (hd : decode cc pc = .ok (.ixor, 1)) (k : Zj κ nL (pc + 1) lv (.int (x ^^^ y) :: st) M) : Zj κ nL pc lv (.int y :: .int x :: st) M := by
  intro H locs ls hP hD hS hl
  exact lv_ixor X.1 X.2.1 hd (k H locs ls hP hD hS hl)
theorem z_ishl (X : CX κ ct tF cc nL own) {x y : Int32} (hd : decode cc pc = .ok (.ishl, 1)) (k : Zj κ nL (pc + 1) lv (.int (x <<< (y &&& 31)) :: st) M) : Zj κ nL pc lv (.int y :: .int x :: st) M := by
  intro H locs ls hP hD hS hl
  exact lv_ishl X.1 X.2.1 hd (k H locs ls hP hD hS hl)
theorem z_ishr (X : CX κ ct tF cc nL own) {x y : Int32} (hd : decode cc pc = .ok (.ishr, 1)) (k : Zj κ nL (pc + 1) lv (.int (x >>> (y &&& 31)) :: st) M) : Zj κ nL pc lv (.int y :: .int x :: st) M := by
  intro H locs ls hP hD hS hl
  exact lv_ishr X.1 X.2.1 hd (k H locs ls hP hD hS hl)
theorem z_lsub (X : CX κ ct tF cc nL own) {x y : Int64} (hd : decode cc pc = .ok (.lsub, 1)) (k : Zj κ nL (pc + 1) lv (.long (x - y) :: st) M) : Zj κ nL pc lv (.long y :: .long x :: st) M := by
  intro H locs ls hP hD hS hl
  exact lv_lsub X.1 X.2.1 hd (k H locs ls hP hD hS hl)
theorem z_land (X : CX κ ct tF cc nL own) {x y : Int64} (hd : decode cc pc = .ok (.land, 1)) (k : Zj κ nL (pc + 1) lv (.long (x &&& y) :: st) M) : Zj κ nL pc lv (.long y :: .long x :: st) M := by
  intro H locs ls hP hD hS hl
  exact lv_land X.1 X.2.1 hd (k H locs ls hP hD hS hl)
theorem z_lor (X : CX κ ct tF cc nL own) {x y : Int64} (hd : decode cc pc = .ok (.lor, 1)) (k : Zj κ nL (pc + 1) lv (.long (x ||| y) :: st) M) : Zj κ nL pc lv (.long y :: .long x :: st) M := by
  intro H locs ls hP hD hS hl
  exact lv_lor X.1 X.2.1 hd (k H locs ls hP hD hS hl)
theorem z_ladd (X : CX κ ct tF cc nL own) {x y : Int64} (hd : decode cc pc = .ok (.ladd, 1)) (k : Zj κ nL (pc + 1) lv (.long (x + y) :: st) M) : Zj κ nL pc lv (.long y :: .long x :: st) M := by
  intro H locs ls hP hD hS hl
  exact lv_ladd X.1 X.2.1 hd (k H locs ls hP hD hS hl)
theorem z_lshl (X : CX κ ct tF cc nL own) {x : Int64} {y : Int32} (hd : decode cc pc = .ok (.lshl, 1)) (k : Zj κ nL (pc + 1) lv (.long (x <<< (y.toInt64 &&& 63)) :: st) M) : Zj κ nL pc lv (.int y :: .long x :: st) M := by
  intro H locs ls hP hD hS hl
  exact lv_lshl X.1 X.2.1 hd rfl (k H locs ls hP hD hS hl)
theorem z_iushr (X : CX κ ct tF cc nL own) {x y : Int32} (hd : decode cc pc = .ok (.iushr, 1)) (k : Zj κ nL (pc + 1) lv (.int ((x.toUInt32 >>> (y.toUInt32 &&& Int32.toUInt32 31)).toInt32) :: st) M) : Zj κ nL pc lv (.int y :: .int x :: st) M := by
  intro H locs ls hP hD hS hl
  exact lv_iushr X.1 X.2.1 hd rfl (k H locs ls hP hD hS hl)
theorem z_idiv (X : CX κ ct tF cc nL own) {x y v : Int32} (hd : decode cc pc = .ok (.idiv, 1)) (hv : ¬ y = 0 ∧ x / y = v) (k : Zj κ nL (pc + 1) lv (.int v :: st) M) : Zj κ nL pc lv (.int y :: .int x :: st) M := by
  intro H locs ls hP hD hS hl
  exact lv_idiv X.1 X.2.1 hd hv.1 (by rw [hv.2]; exact (k H locs ls hP hD hS hl))
theorem z_irem (X : CX κ ct tF cc nL own) {x y v : Int32} (hd : decode cc pc = .ok (.irem, 1)) (hv : ¬ y = 0 ∧ x - x / y * y = v) (k : Zj κ nL (pc + 1) lv (.int v :: st) M) : Zj κ nL pc lv (.int y :: .int x :: st) M := by
  intro H locs ls hP hD hS hl
  exact lv_irem X.1 X.2.1 hd hv.1 (by rw [hv.2]; exact (k H locs ls hP hD hS hl))
theorem z_ineg (X : CX κ ct tF cc nL own) {x : Int32} (hd : decode cc pc = .ok (.ineg, 1)) (k : Zj κ nL (pc + 1) lv (.int (0 - x) :: st) M) : Zj κ nL pc lv (.int x :: st) M := by
  intro H locs ls hP hD hS hl
  exact lv_ineg X.1 X.2.1 hd (k H locs ls hP hD hS hl)
theorem z_i2l (X : CX κ ct tF cc nL own) {x : Int32} (hd : decode cc pc = .ok (.i2l, 1)) (k : Zj κ nL (pc + 1) lv (.long x.toInt64 :: st) M) : Zj κ nL pc lv (.int x :: st) M := by
  intro H locs ls hP hD hS hl
  exact lv_i2l X.1 X.2.1 hd rfl (k H locs ls hP hD hS hl)
theorem z_l2i (X : CX κ ct tF cc nL own) {x : Int64} (hd : decode cc pc = .ok (.l2i, 1)) (k : Zj κ nL (pc + 1) lv (.int x.toInt32 :: st) M) : Zj κ nL pc lv (.long x :: st) M := by
  intro H locs ls hP hD hS hl
  exact lv_l2i X.1 X.2.1 hd rfl (k H locs ls hP hD hS hl)
theorem z_lcmp (X : CX κ ct tF cc nL own) {x y : Int64} (hd : decode cc pc = .ok (.lcmp, 1)) (k : Zj κ nL (pc + 1) lv (.int (lg_cmp x y) :: st) M) : Zj κ nL pc lv (.long y :: .long x :: st) M := by
  intro H locs ls hP hD hS hl
  exact W.lcmp X.1 X.2.1 hd (k H locs ls hP hD hS hl)
theorem z_dup (X : CX κ ct tF cc nL own) {va : Value} (hd : decode cc pc = .ok (.dup, 1)) (h1 : va.category = 1) (k : Zj κ nL (pc + 1) lv (va :: va :: st) M) : Zj κ nL pc lv (va :: st) M := by
  intro H locs ls hP hD hS hl
  exact lv_dup X.1 X.2.1 hd h1 (k H locs ls hP hD hS hl)
theorem z_pop (X : CX κ ct tF cc nL own) {va : Value} (hd : decode cc pc = .ok (.pop, 1)) (h1 : va.category = 1) (k : Zj κ nL (pc + 1) lv (st) M) : Zj κ nL pc lv (va :: st) M := by
  intro H locs ls hP hD hS hl
  exact lv_pop X.1 X.2.1 hd h1 (k H locs ls hP hD hS hl)
theorem z_dup_x1 (X : CX κ ct tF cc nL own) {va vb : Value} (hd : decode cc pc = .ok (.dup_x1, 1)) (h1 : va.category = 1) (h2 : vb.category = 1) (k : Zj κ nL (pc + 1) lv (va :: vb :: va :: st) M) : Zj κ nL pc lv (va :: vb :: st) M := by
  intro H locs ls hP hD hS hl
  exact lv_dup_x1 X.1 X.2.1 hd h1 h2 (k H locs ls hP hD hS hl)
theorem z_dup2 (X : CX κ ct tF cc nL own) {va vb : Value} (hd : decode cc pc = .ok (.dup2, 1)) (h1 : va.category = 1) (h2 : vb.category = 1) (k : Zj κ nL (pc + 1) lv (va :: vb :: va :: vb :: st) M) : Zj κ nL pc lv (va :: vb :: st) M := by
  intro H locs ls hP hD hS hl
  exact lv_dup2_11 X.1 X.2.1 hd h1 h2 (k H locs ls hP hD hS hl)
theorem z_if_eq (X : CX κ ct tF cc nL own) {x : Int32} {off : Int} {tgt : Nat} (hd : decode cc pc = .ok (.ifCond .eq off, 3)) (ht : (pc : Int) + off = (tgt : Int)) (kt : x = 0 → Zj κ nL tgt lv (st) M) (kf : ¬ (x = 0) → Zj κ nL (pc + 3) lv (st) M) : Zj κ nL pc lv (.int x :: st) M := by
  intro H locs ls hP hD hS hl
  exact lv_if_eq X.1 X.2.1 hd ht (fun h => kt h H locs ls hP hD hS hl) (fun h => kf h H locs ls hP hD hS hl)
theorem z_icmp_eq (X : CX κ ct tF cc nL own) {x y : Int32} {off : Int} {tgt : Nat} (hd : decode cc pc = .ok (.if_icmp .eq off, 3)) (ht : (pc : Int) + off = (tgt : Int)) (kt : x = y → Zj κ nL tgt lv (st) M) (kf : ¬ (x = y) → Zj κ nL (pc + 3) lv (st) M) : Zj κ nL pc lv (.int y :: .int x :: st) M := by
  intro H locs ls hP hD hS hl
  exact lv_icmp_eq X.1 X.2.1 hd ht (fun h => kt h H locs ls hP hD hS hl) (fun h => kf h H locs ls hP hD hS hl)
theorem z_if_ne (X : CX κ ct tF cc nL own) {x : Int32} {off : Int} {tgt : Nat} (hd : decode cc pc = .ok (.ifCond .ne off, 3)) (ht : (pc : Int) + off = (tgt : Int)) (kt : ¬ x = 0 → Zj κ nL tgt lv (st) M) (kf : x = 0 → Zj κ nL (pc + 3) lv (st) M) : Zj κ nL pc lv (.int x :: st) M := by
  intro H locs ls hP hD hS hl
  exact lv_if_ne X.1 X.2.1 hd ht (fun h => kt h H locs ls hP hD hS hl) (fun h => kf h H locs ls hP hD hS hl)
theorem z_icmp_ne (X : CX κ ct tF cc nL own) {x y : Int32} {off : Int} {tgt : Nat} (hd : decode cc pc = .ok (.if_icmp .ne off, 3)) (ht : (pc : Int) + off = (tgt : Int)) (kt : ¬ x = y → Zj κ nL tgt lv (st) M) (kf : x = y → Zj κ nL (pc + 3) lv (st) M) : Zj κ nL pc lv (.int y :: .int x :: st) M := by
  intro H locs ls hP hD hS hl
  exact lv_icmp_ne X.1 X.2.1 hd ht (fun h => kt h H locs ls hP hD hS hl) (fun h => kf h H locs ls hP hD hS hl)
theorem z_if_lt (X : CX κ ct tF cc nL own) {x : Int32} {off : Int} {tgt : Nat} (hd : decode cc pc = .ok (.ifCond .lt off, 3)) (ht : (pc : Int) + off = (tgt : Int)) (kt : x < 0 → Zj κ nL tgt lv (st) M) (kf : ¬ (x < 0) → Zj κ nL (pc + 3) lv (st) M) : Zj κ nL pc lv (.int x :: st) M := by
  intro H locs ls hP hD hS hl
  exact lv_if_lt X.1 X.2.1 hd ht (fun h => kt h H locs ls hP hD hS hl) (fun h => kf h H locs ls hP hD hS hl)
theorem z_icmp_lt (X : CX κ ct tF cc nL own) {x y : Int32} {off : Int} {tgt : Nat} (hd : decode cc pc = .ok (.if_icmp .lt off, 3)) (ht : (pc : Int) + off = (tgt : Int)) (kt : x < y → Zj κ nL tgt lv (st) M) (kf : ¬ (x < y) → Zj κ nL (pc + 3) lv (st) M) : Zj κ nL pc lv (.int y :: .int x :: st) M := by
  intro H locs ls hP hD hS hl
  exact lv_icmp_lt X.1 X.2.1 hd ht (fun h => kt h H locs ls hP hD hS hl) (fun h => kf h H locs ls hP hD hS hl)
theorem z_if_ge (X : CX κ ct tF cc nL own) {x : Int32} {off : Int} {tgt : Nat} (hd : decode cc pc = .ok (.ifCond .ge off, 3)) (ht : (pc : Int) + off = (tgt : Int)) (kt : 0 ≤ x → Zj κ nL tgt lv (st) M) (kf : ¬ (0 ≤ x) → Zj κ nL (pc + 3) lv (st) M) : Zj κ nL pc lv (.int x :: st) M := by
  intro H locs ls hP hD hS hl
  exact lv_if_ge X.1 X.2.1 hd ht (fun h => kt h H locs ls hP hD hS hl) (fun h => kf h H locs ls hP hD hS hl)
theorem z_icmp_ge (X : CX κ ct tF cc nL own) {x y : Int32} {off : Int} {tgt : Nat} (hd : decode cc pc = .ok (.if_icmp .ge off, 3)) (ht : (pc : Int) + off = (tgt : Int)) (kt : y ≤ x → Zj κ nL tgt lv (st) M) (kf : ¬ (y ≤ x) → Zj κ nL (pc + 3) lv (st) M) : Zj κ nL pc lv (.int y :: .int x :: st) M := by
  intro H locs ls hP hD hS hl
  exact lv_icmp_ge X.1 X.2.1 hd ht (fun h => kt h H locs ls hP hD hS hl) (fun h => kf h H locs ls hP hD hS hl)
theorem z_if_gt (X : CX κ ct tF cc nL own) {x : Int32} {off : Int} {tgt : Nat} (hd : decode cc pc = .ok (.ifCond .gt off, 3)) (ht : (pc : Int) + off = (tgt : Int)) (kt : 0 < x → Zj κ nL tgt lv (st) M) (kf : ¬ (0 < x) → Zj κ nL (pc + 3) lv (st) M) : Zj κ nL pc lv (.int x :: st) M := by
  intro H locs ls hP hD hS hl
  exact lv_if_gt X.1 X.2.1 hd ht (fun h => kt h H locs ls hP hD hS hl) (fun h => kf h H locs ls hP hD hS hl)
theorem z_icmp_gt (X : CX κ ct tF cc nL own) {x y : Int32} {off : Int} {tgt : Nat} (hd : decode cc pc = .ok (.if_icmp .gt off, 3)) (ht : (pc : Int) + off = (tgt : Int)) (kt : y < x → Zj κ nL tgt lv (st) M) (kf : ¬ (y < x) → Zj κ nL (pc + 3) lv (st) M) : Zj κ nL pc lv (.int y :: .int x :: st) M := by
  intro H locs ls hP hD hS hl
  exact lv_icmp_gt X.1 X.2.1 hd ht (fun h => kt h H locs ls hP hD hS hl) (fun h => kf h H locs ls hP hD hS hl)
theorem z_if_le (X : CX κ ct tF cc nL own) {x : Int32} {off : Int} {tgt : Nat} (hd : decode cc pc = .ok (.ifCond .le off, 3)) (ht : (pc : Int) + off = (tgt : Int)) (kt : x ≤ 0 → Zj κ nL tgt lv (st) M) (kf : ¬ (x ≤ 0) → Zj κ nL (pc + 3) lv (st) M) : Zj κ nL pc lv (.int x :: st) M := by
  intro H locs ls hP hD hS hl
  exact lv_if_le X.1 X.2.1 hd ht (fun h => kt h H locs ls hP hD hS hl) (fun h => kf h H locs ls hP hD hS hl)
theorem z_icmp_le (X : CX κ ct tF cc nL own) {x y : Int32} {off : Int} {tgt : Nat} (hd : decode cc pc = .ok (.if_icmp .le off, 3)) (ht : (pc : Int) + off = (tgt : Int)) (kt : x ≤ y → Zj κ nL tgt lv (st) M) (kf : ¬ (x ≤ y) → Zj κ nL (pc + 3) lv (st) M) : Zj κ nL pc lv (.int y :: .int x :: st) M := by
  intro H locs ls hP hD hS hl
  exact lv_icmp_le X.1 X.2.1 hd ht (fun h => kt h H locs ls hP hD hS hl) (fun h => kf h H locs ls hP hD hS hl)
theorem z_goto (X : CX κ ct tF cc nL own) {off : Int} {tgt : Nat} (hd : decode cc pc = .ok (.goto off, 3)) (ht : (pc : Int) + off = (tgt : Int)) (k : Zj κ nL tgt lv (st) M) : Zj κ nL pc lv (st) M := by
  intro H locs ls hP hD hS hl
  exact lv_goto X.1 X.2.1 hd ht (k H locs ls hP hD hS hl)
theorem z_tabO (X : CX κ ct tF cc nL own) {dflt lo hi : Int} {offs : Array Int} {len : Nat} {x : Int32} {tgt : Nat} (hd : decode cc pc = .ok (.tableswitch dflt lo hi offs, len)) (h : x.toInt < lo ∨ hi < x.toInt) (ht : (pc : Int) + dflt = (tgt : Int)) (k : Zj κ nL tgt lv (st) M) : Zj κ nL pc lv (.int x :: st) M := by
  intro H locs ls hP hD hS hl
  exact lv_tableOut X.1 X.2.1 hd h ht (k H locs ls hP hD hS hl)
theorem z_tabI (X : CX κ ct tF cc nL own) {dflt lo hi : Int} {offs : Array Int} {len : Nat} {x : Int32} {off : Int} {tgt : Nat} (hd : decode cc pc = .ok (.tableswitch dflt lo hi offs, len)) (h1 : ¬ x.toInt < lo) (h2 : ¬ hi < x.toInt) (ho : offs[(x.toInt - lo).toNat]? = some off) (ht : (pc : Int) + off = (tgt : Int)) (k : Zj κ nL tgt lv (st) M) : Zj κ nL pc lv (.int x :: st) M := by
  intro H locs ls hP hD hS hl
  exact lv_tableIn X.1 X.2.1 hd h1 h2 ho ht (k H locs ls hP hD hS hl)
theorem z_look (X : CX κ ct tF cc nL own) {dflt : Int} {ps : Array (Int × Int)} {len : Nat} {x : Int32} {off : Int} {tgt : Nat} (hd : decode cc pc = .ok (.lookupswitch dflt ps, len)) (hp : (ps.toList.zip (ps.toList.drop 1)).all (fun (a, next) => a.1 < next.1) = true) (ho : Op.lookupswitch.offset ps.toList dflt x.toInt = off) (ht : (pc : Int) + off = (tgt : Int)) (k : Zj κ nL tgt lv (st) M) : Zj κ nL pc lv (.int x :: st) M := by
  intro H locs ls hP hD hS hl
  exact lv_lookup X.1 X.2.1 hd hp ho ht (k H locs ls hP hD hS hl)
theorem z_get (X : CX κ ct tF cc nL own) {C : String} {T : u_T} {N ci index q a j : Nat} {fs : List Value} {v : Value} (hin : ∀ w ∈ u_ws C T N, w ∈ lw_gd) (hc : vwCl[ci]? = some (C, T, N)) (hj : j < N) (hlink : Cond.fieldLink own index (T j).1 (T j).2.1 (T j).2.2.1 ∈ lw_gd) (hO : (kw κ M)[q]? = some (a, .inr (ci, fs))) (hv : fs[j]? = some v) (hd : decode cc pc = .ok (.getfield index, 3)) (k : Zj κ nL (pc + 3) lv (v :: st) M) : Zj κ nL pc lv (.ref a :: st) M := by
  intro H locs ls hP hD hS hl
  exact va_get X.1 X.2.1 X.2.2.2.2.1 hin X.2.2.2.1 X.2.2.2.2.2.1 hP q hO hc j hj (X.2.2.2.2.1 _ hlink) (fun _ h => h) hv hd (k H locs ls hP hD hS hl)
theorem z_put (X : CX κ ct tF cc nL own) {C : String} {T : u_T} {N ci index q a j : Nat} {fs : List Value} {v : Value} {ty : FieldType} (hin : ∀ w ∈ u_ws C T N, w ∈ lw_gd) (ty0 : Nat → FieldType) (hty : ∀ k, k < N → parseFieldDescriptor (T k).2.2.1 = some (ty0 k)) (hnm : ∀ a, a < N → ∀ b, b < N → a ≠ b → (T a).2.1 ≠ (T b).2.1) (hc : vwCl[ci]? = some (C, T, N)) (hj : j < N) (hlink : Cond.fieldLink own index (T j).1 (T j).2.1 (T j).2.2.1 ∈ lw_gd) (hfin : (T j).2.2.2 = false) (hpd : parseFieldDescriptor (T j).2.2.1 = some ty) (hn : narrow ty v = v) (hfit : fits ty v = true) (hO : (kw κ M)[q]? = some (a, .inr (ci, fs))) (hlen : j < fs.length) (hset : (kw κ M).set q (a, .inr (ci, fs.set j v)) = kw κ M') (hd : decode cc pc = .ok (.putfield index, 3)) (k : Zj κ nL (pc + 3) lv (st) M') : Zj κ nL pc lv (v :: .ref a :: st) M := by
  intro H locs ls hP hD hS hl
  exact va_put X.1 X.2.1 X.2.2.2.2.1 hin ty0 hty hnm X.2.2.2.1 X.2.2.2.2.2.1 hP hD hS q hO hc j hj (X.2.2.2.2.1 _ hlink) (fun _ h => h) hfin hpd hn hfit hlen hd (fun H locs hP hD hS => k H locs ls (hset ▸ hP) (hset ▸ hD) hS hl)
theorem z_iald (X : CX κ ct tF cc nL own) {q a n : Nat} {f : Nat → Int32} {i : Int32} {v : Int32} (hA : (kw κ M)[q]? = some (a, .inl ((ct 0), n, .inl f))) (hv : vp_in i n ∧ f i.toNatClampNeg = v) (hd : decode cc pc = .ok (.iaload, 1)) (k : Zj κ nL (pc + 1) lv (.int v :: st) M) : Zj κ nL pc lv (.int i :: .ref a :: st) M := by
  intro H locs ls hP hD hS hl
  exact va_iald X.1 X.2.1 X.2.2.2.2.2.1 hP q 0 hA rfl hv.1 hd (by rw [hv.2]; exact (k H locs ls hP hD hS hl))
theorem z_zald (X : CX κ ct tF cc nL own) {q a n : Nat} {f : Nat → Int32} {i : Int32} {v : Int32} (hA : (kw κ M)[q]? = some (a, .inl ((ct 2), n, .inl f))) (hv : vp_in i n ∧ f i.toNatClampNeg = v) (hd : decode cc pc = .ok (.baload, 1)) (k : Zj κ nL (pc + 1) lv (.int v :: st) M) : Zj κ nL pc lv (.int i :: .ref a :: st) M := by
  intro H locs ls hP hD hS hl
  exact va_zald X.1 X.2.1 X.2.2.2.2.2.1 hP q 2 hA rfl hv.1 hd (by rw [hv.2]; exact (k H locs ls hP hD hS hl))
theorem z_lald (X : CX κ ct tF cc nL own) {q a n : Nat} {f : Nat → Int64} {i : Int32} {v : Int64} (hA : (kw κ M)[q]? = some (a, .inl ((ct 1), n, .inr (.inl f)))) (hv : vp_in i n ∧ f i.toNatClampNeg = v) (hd : decode cc pc = .ok (.laload, 1)) (k : Zj κ nL (pc + 1) lv (.long v :: st) M) : Zj κ nL pc lv (.int i :: .ref a :: st) M := by
  intro H locs ls hP hD hS hl
  exact va_lald X.1 X.2.1 X.2.2.2.2.2.1 hP q 1 hA rfl hv.1 hd (by rw [hv.2]; exact (k H locs ls hP hD hS hl))
theorem z_iast (X : CX κ ct tF cc nL own) {q a n : Nat} {f g : Nat → Int32} {i : Int32} {x : Int32} (hA : (kw κ M)[q]? = some (a, .inl ((ct 0), n, .inl f))) (hv : vp_in i n ∧ upd f i.toNatClampNeg x = g) (hset : (kw κ M).set q (a, .inl ((ct 0), n, .inl g)) = kw κ M') (hd : decode cc pc = .ok (.iastore, 1)) (k : Zj κ nL (pc + 1) lv (st) M') : Zj κ nL pc lv (.int x :: .int i :: .ref a :: st) M := by
  intro H locs ls hP hD hS hl
  exact va_iast X.1 X.2.1 X.2.2.2.2.2.1 hP hD hS q 0 hA rfl hv.1 hd (fun H locs hP hD hS => by rw [hv.2, hset] at hP hD; exact k H locs ls hP hD hS hl)
theorem z_zast (X : CX κ ct tF cc nL own) {q a n : Nat} {f g : Nat → Int32} {i : Int32} {x : Int32} (hA : (kw κ M)[q]? = some (a, .inl ((ct 2), n, .inl f))) (hv : vp_in i n ∧ upd f i.toNatClampNeg (vp_nar .boolean x) = g) (hset : (kw κ M).set q (a, .inl ((ct 2), n, .inl g)) = kw κ M') (hd : decode cc pc = .ok (.bastore, 1)) (k : Zj κ nL (pc + 1) lv (st) M') : Zj κ nL pc lv (.int x :: .int i :: .ref a :: st) M := by
  intro H locs ls hP hD hS hl
  exact va_zast X.1 X.2.1 X.2.2.2.2.2.1 hP hD hS q 2 hA rfl hv.1 hd (fun H locs hP hD hS => by rw [hv.2, hset] at hP hD; exact k H locs ls hP hD hS hl)
theorem z_last (X : CX κ ct tF cc nL own) {q a n : Nat} {f g : Nat → Int64} {i : Int32} {x : Int64} (hA : (kw κ M)[q]? = some (a, .inl ((ct 1), n, .inr (.inl f)))) (hv : vp_in i n ∧ vp_updL f i.toNatClampNeg x = g) (hset : (kw κ M).set q (a, .inl ((ct 1), n, .inr (.inl g))) = kw κ M') (hd : decode cc pc = .ok (.lastore, 1)) (k : Zj κ nL (pc + 1) lv (st) M') : Zj κ nL pc lv (.long x :: .int i :: .ref a :: st) M := by
  intro H locs ls hP hD hS hl
  exact va_last X.1 X.2.1 X.2.2.2.2.2.1 hP hD hS q 1 hA rfl hv.1 hd (fun H locs hP hD hS => by rw [hv.2, hset] at hP hD; exact k H locs ls hP hD hS hl)
theorem z_aald (X : CX κ ct tF cc nL own) {q a n : Nat} {f : Nat → Option Nat} {i : Int32} {v : Nat} (hA : (kw κ M)[q]? = some (a, .inl (ct 3, n, .inr (.inr (.inr (.inr f)))))) (hv : vp_in i n ∧ f i.toNatClampNeg = some v) (hd : decode cc pc = .ok (.aaload, 1)) (k : Zj κ nL (pc + 1) lv (.ref v :: st) M) : Zj κ nL pc lv (.int i :: .ref a :: st) M := by
  intro H locs ls hP hD hS hl
  exact W.aald (v := .ref v) (ty := .array .long) X.1 X.2.1 (hP q _ hA) ((X.2.2.2.2.2.1.2 3 _ rfl).1 n (fun j => va_rf (f j))) rfl (fun q => by cases q) (by show ¬ (i < 0 ∨ (arrV _ _ _).slots.size ≤ _); rw [arrV_size]; exact hv.1) (by show (arrV _ _ _).slots[_]? = _; rw [arrV_read _ _ (Nat.not_le.mp fun q => hv.1 (Or.inr q)), hv.2]; rfl) rfl rfl hd (k H locs ls hP hD hS hl)
theorem z_alen (X : CX κ ct tF cc nL own) {q a t0 : Nat} {cA : ClassId} {x : vp_A} {ty : FieldType} {v : Int32} (hA : (kw κ M)[q]? = some (a, .inl (cA, x))) (ht : (tyL ct)[t0]? = some (cA, ty)) (hv : Int32.ofNat x.1 = v) (hd : decode cc pc = .ok (.arraylength, 1)) (k : Zj κ nL (pc + 1) lv (.int v :: st) M) : Zj κ nL pc lv (.ref a :: st) M := by
  intro H locs ls hP hD hS hl
  exact va_alen X.1 X.2.1 X.2.2.2.2.2.1 hP q t0 hA ht hv hd (k H locs ls hP hD hS hl)
theorem z_gets (X : CX κ ct tF cc nL own) {index : Nat} (hlink : Cond.fieldLink own index "LeaningTrees$Forest" "FIRST" "[I" ∈ lw_gd) (hd : decode cc pc = .ok (.getstatic index, 3)) (k : Zj κ nL (pc + 3) lv (.ref tF :: st) M) : Zj κ nL pc lv (st) M := by
  intro H locs ls hP hD hS hl
  exact va_gets X.1 X.2.1 X.2.2.2.2.2.2.1.1 hS X.2.2.2.1 (X.2.2.2.2.1 _ hlink) (fun _ h => h) hd (k H locs ls hP hD hS hl)
theorem z_tald (X : CX κ ct tF cc nL own) {i v : Int32} (hv : vp_in i 9 ∧ fiF i.toNatClampNeg = v) (hd : decode cc pc = .ok (.iaload, 1)) (k : Zj κ nL (pc + 1) lv (.int v :: st) M) : Zj κ nL pc lv (.int i :: .ref tF :: st) M := by
  intro H locs ls hP hD hS hl
  exact va_ti X.1 X.2.1 X.2.2.2.2.2.2.1.2 hS hv.1 (congrArg Value.int hv.2) hd (k H locs ls hP hD hS hl)
theorem z_max (X : CX κ ct tF cc nL own) {index : Nat} {x y : Int32} (hlink : Cond.methodLink own index Lib.Math.max.name ∈ lw_gd) (hw : Cond.static Lib.Math.max.name ∈ lw_gd ∧ Cond.initialized "java/lang/Math" ∈ lw_gd ∧ Cond.code Lib.Math.max.name Lib.Math.max.code 2 (some .int) ∈ lw_gd) (hf : 1 ≤ (kR κ).frames) (hL : (st.map fun v => v.category).sum + 13 ≤ (kR κ).locals) (hd : decode cc pc = .ok (.invokestatic index, 3)) (k : Zj κ nL (pc + 3) lv (.int (if x < y then y else x) :: st) M) : Zj κ nL pc lv (.int y :: .int x :: st) M := by
  intro H locs ls hP hD hS hl
  exact va_mmax X.1 X.2.1 (by rw [X.2.2.1]; exact hl.1.symm) X.2.2.2.1 (X.2.2.2.2.1 _ hlink) (X.2.2.2.2.1 _ hw.1) (X.2.2.2.2.1 _ hw.2.1) (X.2.2.2.2.1 _ hw.2.2) hf hL X.2.2.2.2.2.2.2.1 X.2.2.2.2.2.2.2.2 hd (k H locs ls hP hD hS hl)
theorem z_min (X : CX κ ct tF cc nL own) {index : Nat} {x y : Int32} (hlink : Cond.methodLink own index Lib.Math.min.name ∈ lw_gd) (hw : Cond.static Lib.Math.min.name ∈ lw_gd ∧ Cond.initialized "java/lang/Math" ∈ lw_gd ∧ Cond.code Lib.Math.min.name Lib.Math.min.code 2 (some .int) ∈ lw_gd) (hf : 1 ≤ (kR κ).frames) (hL : (st.map fun v => v.category).sum + 13 ≤ (kR κ).locals) (hd : decode cc pc = .ok (.invokestatic index, 3)) (k : Zj κ nL (pc + 3) lv (.int (if y < x then y else x) :: st) M) : Zj κ nL pc lv (.int y :: .int x :: st) M := by
  intro H locs ls hP hD hS hl
  exact va_mmin X.1 X.2.1 (by rw [X.2.2.1]; exact hl.1.symm) X.2.2.2.1 (X.2.2.2.2.1 _ hlink) (X.2.2.2.2.1 _ hw.1) (X.2.2.2.2.1 _ hw.2.1) (X.2.2.2.2.1 _ hw.2.2) hf hL X.2.2.2.2.2.2.2.1 X.2.2.2.2.2.2.2.2 hd (k H locs ls hP hD hS hl)
theorem z_copy (X : CX κ ct tF cc nL own) {index q0 q1 a0 a n0 n1 : Nat} {f g g2 : Nat → Int32} {sp dp n : Int32} (hlink : Cond.methodLink own index arraycopyName ∈ lw_gd) (hw : Cond.native arraycopyName ∈ lw_gd ∧ Cond.static arraycopyName ∈ lw_gd ∧ Cond.initialized "java/lang/System" ∈ lw_gd) (hA0 : (kw κ M)[q0]? = some (a0, .inl (ct 0, n0, .inl f))) (hA1 : (kw κ M)[q1]? = some (a, .inl (ct 0, n1, .inl g))) (hv : ((¬ sp < 0 ∧ ¬ dp < 0) ∧ ¬ n < 0 ∧ sp.toNatClampNeg + n.toNatClampNeg ≤ n0 ∧ dp.toNatClampNeg + n.toNatClampNeg ≤ n1) ∧ va_cpy f g sp.toNatClampNeg dp.toNatClampNeg n.toNatClampNeg = g2) (hset : (kw κ M).set q1 (a, .inl (ct 0, n1, .inl g2)) = kw κ M') (hf : 1 ≤ (kR κ).frames) (hL : (st.map fun v => v.category).sum + (nativeFrameWords "java/lang/System" "arraycopy" 5 + 11) ≤ (kR κ).locals) (hd : decode cc pc = .ok (.invokestatic index, 3)) (k : Zj κ nL (pc + 3) lv (st) M') : Zj κ nL pc lv (.int n :: .int dp :: .ref a :: .int sp :: .ref a0 :: st) M := by
  intro H locs ls hP hD hS hl
  exact va_copyi X.1 X.2.1 (by rw [X.2.2.1]; exact hl.1.symm) X.2.2.2.1 (X.2.2.2.2.1 _ hlink) (X.2.2.2.2.1 _ hw.1) (X.2.2.2.2.1 _ hw.2.1) (X.2.2.2.2.1 _ hw.2.2) X.2.2.2.2.2.1 hP hD hS q0 q1 0 0 hA0 hA1 rfl rfl rfl hv.1.1.1 hv.1.1.2 hv.1.2.1 hv.1.2.2.1 hv.1.2.2.2 (fun _ _ => rfl) hf hL hd (fun H locs hP hD hS => by rw [hv.2, hset] at hP hD; exact k H locs ls hP hD hS hl)
theorem z_cVI (X : CX κ ct tF cc nL own) {y : MethodName} {bytes : ByteArray} {mL : Nat} {rm : Room} {index n : Nat} {As : List Value} {rt : FieldType} {r : Int32} {C : String} {T : u_T} {N ci q b : Nat} {fs : List Value} {st0 : List Value} (hM : CtI (kl κ) y bytes mL rt rm (kD κ) ct tF (kw κ) (.ref b :: As) M r M') (hm : Cond.methodLink own index y ∈ lw_gd) (hv : MV y bytes mL (some rt) C n) (hR : rm.frames + 1 ≤ (kR κ).frames ∧ 8 + (mL + 11) + rm.locals ≤ (kR κ).locals) (hrm : rm.cells = 0 ∧ rm.slots = 0) (hn : As.length = n) (hst : (st.map fun v => v.category).sum ≤ 8) (hO : (kw κ M)[q]? = some (b, .inr (ci, fs))) (hci : vwCl[ci]? = some (C, T, N)) (h0 : st0 = As.reverse ++ .ref b :: st) (hd : decode cc pc = .ok (.invokevirtual index, 3)) (k : Zj κ nL (pc + 3) lv (.int r :: st) M') : Zj κ nL pc lv (st0) M := by
  intro H locs ls hP hD hS hl
  exact va_calli (va_runV (As := As) (rest := st) ⟨X.1, X.2.1, X.2.2.1, X.2.2.2.1, X.2.2.2.2.1⟩ (hM (kA κ)) (cwV n X.2.2.2.2.1 (lw_gV hm hv) rfl hrm.1 hrm.2 hv.2 hR) ⟨CP_blind _ _ _ _ _ _ _, va_recv X.2.2.2.2.2.1 hP (ci := ci) (q0 := q) hci hO, fun U hU hW => ⟨rfl, CP_at X hP hD hS U hU hW⟩⟩ rfl hn hl.1 h0 (lv_room hst) hd X.2.2.2.2.2.2.2) hS (fun _ _ h => h) (fun _ h => h) (fun r1 u t H1 locs1 ht hvm hw hB hz1 hk1 hS1 => (by subst hw; exact k H1 locs1 ls (by rw [← ht]; exact hB.1) hB.2 hS1 hl))
theorem z_cSI (X : CX κ ct tF cc nL own) {y : MethodName} {bytes : ByteArray} {mL : Nat} {rm : Room} {index n : Nat} {As : List Value} {rt : FieldType} {r : Int32} {st0 : List Value} (hM : CtI (kl κ) y bytes mL rt rm (kD κ) ct tF (kw κ) As M r M') (hm : Cond.methodLink own index y ∈ lw_gd) (hv : MS y bytes mL (some rt) n) (hR : rm.frames + 1 ≤ (kR κ).frames ∧ 8 + (mL + 11) + rm.locals ≤ (kR κ).locals) (hrm : rm.cells = 0 ∧ rm.slots = 0) (hn : As.length = n) (hst : (st.map fun v => v.category).sum ≤ 8) (h0 : st0 = As.reverse ++ st) (hd : decode cc pc = .ok (.invokestatic index, 3)) (k : Zj κ nL (pc + 3) lv (.int r :: st) M') : Zj κ nL pc lv (st0) M := by
  intro H locs ls hP hD hS hl
  exact va_calli (va_runS (As := As) (rest := st) ⟨X.1, X.2.1, X.2.2.1, X.2.2.2.1, X.2.2.2.2.1⟩ (hM (kA κ)) (va_cwS n X.2.2.2.2.1 (lw_gS hm hv) rfl hrm.1 hrm.2 hv.2 hR) ⟨CP_blind _ _ _ _ _ _ _, fun U hU hW => ⟨rfl, CP_at X hP hD hS U hU hW⟩⟩ rfl hn hl.1 h0 (lv_room hst) hd X.2.2.2.2.2.2.2) hS (fun _ _ h => h) (fun _ h => h) (fun r1 u t H1 locs1 ht hvm hw hB hz1 hk1 hS1 => (by subst hw; exact k H1 locs1 ls (by rw [← ht]; exact hB.1) hB.2 hS1 hl))
theorem z_cVL (X : CX κ ct tF cc nL own) {y : MethodName} {bytes : ByteArray} {mL : Nat} {rm : Room} {index n : Nat} {As : List Value} {r : Int64} {C : String} {T : u_T} {N ci q b : Nat} {fs : List Value} {st0 : List Value} (hM : CtL (kl κ) y bytes mL rm (kD κ) ct tF (kw κ) (.ref b :: As) M r M') (hm : Cond.methodLink own index y ∈ lw_gd) (hv : MV y bytes mL (some .long) C n) (hR : rm.frames + 1 ≤ (kR κ).frames ∧ 8 + (mL + 11) + rm.locals ≤ (kR κ).locals) (hrm : rm.cells = 0 ∧ rm.slots = 0) (hn : As.length = n) (hst : (st.map fun v => v.category).sum ≤ 8) (hO : (kw κ M)[q]? = some (b, .inr (ci, fs))) (hci : vwCl[ci]? = some (C, T, N)) (h0 : st0 = As.reverse ++ .ref b :: st) (hd : decode cc pc = .ok (.invokevirtual index, 3)) (k : Zj κ nL (pc + 3) lv (.long r :: st) M') : Zj κ nL pc lv (st0) M := by
  intro H locs ls hP hD hS hl
  exact va_calll (va_runV (As := As) (rest := st) ⟨X.1, X.2.1, X.2.2.1, X.2.2.2.1, X.2.2.2.2.1⟩ (hM (kA κ)) (cwV n X.2.2.2.2.1 (lw_gV hm hv) rfl hrm.1 hrm.2 hv.2 hR) ⟨CP_blind _ _ _ _ _ _ _, va_recv X.2.2.2.2.2.1 hP (ci := ci) (q0 := q) hci hO, fun U hU hW => ⟨rfl, CP_at X hP hD hS U hU hW⟩⟩ rfl hn hl.1 h0 (lv_room hst) hd X.2.2.2.2.2.2.2) hS (fun _ _ h => h) (fun _ h => h) (fun r1 u t H1 locs1 ht hvm hw hB hz1 hk1 hS1 => (by subst hw; exact k H1 locs1 ls (by rw [← ht]; exact hB.1) hB.2 hS1 hl))
theorem z_cSL (X : CX κ ct tF cc nL own) {y : MethodName} {bytes : ByteArray} {mL : Nat} {rm : Room} {index n : Nat} {As : List Value} {r : Int64} {st0 : List Value} (hM : CtL (kl κ) y bytes mL rm (kD κ) ct tF (kw κ) As M r M') (hm : Cond.methodLink own index y ∈ lw_gd) (hv : MS y bytes mL (some .long) n) (hR : rm.frames + 1 ≤ (kR κ).frames ∧ 8 + (mL + 11) + rm.locals ≤ (kR κ).locals) (hrm : rm.cells = 0 ∧ rm.slots = 0) (hn : As.length = n) (hst : (st.map fun v => v.category).sum ≤ 8) (h0 : st0 = As.reverse ++ st) (hd : decode cc pc = .ok (.invokestatic index, 3)) (k : Zj κ nL (pc + 3) lv (.long r :: st) M') : Zj κ nL pc lv (st0) M := by
  intro H locs ls hP hD hS hl
  exact va_calll (va_runS (As := As) (rest := st) ⟨X.1, X.2.1, X.2.2.1, X.2.2.2.1, X.2.2.2.2.1⟩ (hM (kA κ)) (va_cwS n X.2.2.2.2.1 (lw_gS hm hv) rfl hrm.1 hrm.2 hv.2 hR) ⟨CP_blind _ _ _ _ _ _ _, fun U hU hW => ⟨rfl, CP_at X hP hD hS U hU hW⟩⟩ rfl hn hl.1 h0 (lv_room hst) hd X.2.2.2.2.2.2.2) hS (fun _ _ h => h) (fun _ h => h) (fun r1 u t H1 locs1 ht hvm hw hB hz1 hk1 hS1 => (by subst hw; exact k H1 locs1 ls (by rw [← ht]; exact hB.1) hB.2 hS1 hl))
theorem z_cVV (X : CX κ ct tF cc nL own) {y : MethodName} {bytes : ByteArray} {mL : Nat} {rm : Room} {index n : Nat} {As : List Value} {C : String} {T : u_T} {N ci q b : Nat} {fs : List Value} {st0 : List Value} (hM : CtV (kl κ) y bytes mL rm (kD κ) ct tF (kw κ) (.ref b :: As) M M') (hm : Cond.methodLink own index y ∈ lw_gd) (hv : MV y bytes mL none C n) (hR : rm.frames + 1 ≤ (kR κ).frames ∧ 8 + (mL + 11) + rm.locals ≤ (kR κ).locals) (hrm : rm.cells = 0 ∧ rm.slots = 0) (hn : As.length = n) (hst : (st.map fun v => v.category).sum ≤ 8) (hO : (kw κ M)[q]? = some (b, .inr (ci, fs))) (hci : vwCl[ci]? = some (C, T, N)) (h0 : st0 = As.reverse ++ .ref b :: st) (hd : decode cc pc = .ok (.invokevirtual index, 3)) (k : Zj κ nL (pc + 3) lv (st) M') : Zj κ nL pc lv (st0) M := by
  intro H locs ls hP hD hS hl
  exact va_callv (va_runV (As := As) (rest := st) ⟨X.1, X.2.1, X.2.2.1, X.2.2.2.1, X.2.2.2.2.1⟩ (hM (kA κ)) (cwV n X.2.2.2.2.1 (lw_gV hm hv) rfl hrm.1 hrm.2 hv.2 hR) ⟨CP_blind _ _ _ _ _ _ _, va_recv X.2.2.2.2.2.1 hP (ci := ci) (q0 := q) hci hO, fun U hU hW => ⟨rfl, CP_at X hP hD hS U hU hW⟩⟩ rfl hn hl.1 h0 (lv_room hst) hd X.2.2.2.2.2.2.2) hS (fun _ _ h => h) (fun _ h => h) (fun u t H1 locs1 ht hvm hw hB hz1 hk1 hS1 => (k H1 locs1 ls (by rw [← ht]; exact hB.1) hB.2 hS1 hl))
theorem z_cSV (X : CX κ ct tF cc nL own) {y : MethodName} {bytes : ByteArray} {mL : Nat} {rm : Room} {index n : Nat} {As : List Value} {st0 : List Value} (hM : CtV (kl κ) y bytes mL rm (kD κ) ct tF (kw κ) As M M') (hm : Cond.methodLink own index y ∈ lw_gd) (hv : MS y bytes mL none n) (hR : rm.frames + 1 ≤ (kR κ).frames ∧ 8 + (mL + 11) + rm.locals ≤ (kR κ).locals) (hrm : rm.cells = 0 ∧ rm.slots = 0) (hn : As.length = n) (hst : (st.map fun v => v.category).sum ≤ 8) (h0 : st0 = As.reverse ++ st) (hd : decode cc pc = .ok (.invokestatic index, 3)) (k : Zj κ nL (pc + 3) lv (st) M') : Zj κ nL pc lv (st0) M := by
  intro H locs ls hP hD hS hl
  exact va_callv (va_runS (As := As) (rest := st) ⟨X.1, X.2.1, X.2.2.1, X.2.2.2.1, X.2.2.2.2.1⟩ (hM (kA κ)) (va_cwS n X.2.2.2.2.1 (lw_gS hm hv) rfl hrm.1 hrm.2 hv.2 hR) ⟨CP_blind _ _ _ _ _ _ _, fun U hU hW => ⟨rfl, CP_at X hP hD hS U hU hW⟩⟩ rfl hn hl.1 h0 (lv_room hst) hd X.2.2.2.2.2.2.2) hS (fun _ _ h => h) (fun _ h => h) (fun u t H1 locs1 ht hvm hw hB hz1 hk1 hS1 => (k H1 locs1 ls (by rw [← ht]; exact hB.1) hB.2 hS1 hl))
theorem z_iret {rt : FieldType} {r : Int32} (hret : ZI κ cc rt r M) (hd : decode cc pc = .ok (.ireturn, 1)) (hn : narrow rt (.int r) = .int r) : Zj κ nL pc lv [.int r] M := by
  intro H locs ls hP hD hS hl
  exact hret H locs ls pc hP hD hS hd hn
theorem z_lret {r : Int64} (hret : ZL κ cc r M) (hd : decode cc pc = .ok (.lreturn, 1)) : Zj κ nL pc lv [.long r] M := by
  intro H locs ls hP hD hS hl
  exact hret H locs ls pc hP hD hS hd
theorem z_vret (hret : ZV κ cc M) (hd : decode cc pc = .ok (.return_, 1)) : Zj κ nL pc lv [] M := by
  intro H locs ls hP hD hS hl
  exact hret H locs ls pc hP hD hS hd
theorem z_sub (ks : List Nat) (hs : lv_pick lv ks = lv') (k : Zj κ nL pc lv' st M) : Zj κ nL pc lv st M := by
  intro H locs ls hP hD hS hl
  exact k H locs ls hP hD hS (lv_sub hl ks hs)
theorem z_mem (h : M = M') (k : Zj κ nL pc lv st M') : Zj κ nL pc lv st M := h ▸ k
end ROWS
/-! cells of a world, told by their number: where they lie, and what writing them makes of the memory -/
def IA (wOf : Mm → va_W) (po ad : Nat → Nat) (cA : ClassId) (q n : Nat) : Prop := ∀ M : Mm, (wOf M)[po q]? = some (ad q, .inl (cA, n, .inl (M.1 q))) ∧ ∀ f, (wOf M).set (po q) (ad q, .inl (cA, n, .inl f)) = wOf (pu M.1 [(q, f)], M.2)
def LA (wOf : Mm → va_W) (po ad : Nat → Nat) (cA : ClassId) (q r n : Nat) : Prop := ∀ M : Mm, (wOf M)[po q]? = some (ad q, .inl (cA, n, .inr (.inl (M.2.1 r)))) ∧ ∀ f, (wOf M).set (po q) (ad q, .inl (cA, n, .inr (.inl f))) = wOf (M.1, pu M.2.1 [(r, f)], M.2.2)
def OB (wOf : Mm → va_W) (po ad : Nat → Nat) (q ci : Nat) (fs : Mm → List Value) : Prop := ∀ M : Mm, (wOf M)[po q]? = some (ad q, .inr (ci, fs M))
def OS (wOf : Mm → va_W) (po ad : Nat → Nat) (q ci j t : Nat) (fs : Mm → List Value) : Prop := ∀ (M : Mm) (v : Int32), (wOf M).set (po q) (ad q, .inr (ci, (fs M).set j (.int v))) = wOf (M.1, M.2.1, pu M.2.2 [(t, v)])
/-- the memory of a method under way: what it began with, its rows, longs and single ints as they are now -/
def mk (M : Mm) (l : List (Nat × (Nat → Int32))) (lo : Nat → Nat → Int64) (sl : List (Nat × Int32)) : Mm := (pu M.1 l, lo, pu M.2.2 sl)
theorem mk_self (M : Mm) (ks ts : List Nat) : M = mk M (ks.map fun k => (k, M.1 k)) M.2.1 (ts.map fun k => (k, M.2.2 k)) := by
  unfold mk
  rw [pu_self, pu_self]
theorem mk_set1 {wOf : Mm → va_W} {po ad : Nat → Nat} {cA : ClassId} {q n : Nat} (h : IA wOf po ad cA q n) {M : Mm} {l l' : List (Nat × (Nat → Int32))} {lo : Nat → Nat → Int64} {sl : List (Nat × Int32)} {f : Nat → Int32} (h1 : hk l q = true) (h2 : rp l q f = l') : (wOf (mk M l lo sl)).set (po q) (ad q, .inl (cA, n, .inl f)) = wOf (mk M l' lo sl) := by
  rw [(h _).2]
  show wOf (pu (pu M.1 l) [(q, f)], lo, pu M.2.2 sl) = _
  rw [pu_rp _ _ _ _ h1, h2]
  rfl
theorem mk_setS {wOf : Mm → va_W} {po ad : Nat → Nat} {q ci j t : Nat} {fs : Mm → List Value} (h : OS wOf po ad q ci j t fs) {M : Mm} {l : List (Nat × (Nat → Int32))} {lo : Nat → Nat → Int64} {sl sl' : List (Nat × Int32)} {v : Int32} (h1 : hk sl t = true) (h2 : rp sl t v = sl') : (wOf (mk M l lo sl)).set (po q) (ad q, .inr (ci, (fs (mk M l lo sl)).set j (.int v))) = wOf (mk M l lo sl') := by
  rw [h]
  show wOf (pu M.1 l, lo, pu (pu M.2.2 sl) [(t, v)]) = _
  rw [pu_rp _ _ _ _ h1, h2]
  rfl
theorem mk_setL {wOf : Mm → va_W} {po ad : Nat → Nat} {cA : ClassId} {q r n : Nat} (h : LA wOf po ad cA q r n) {M : Mm} {l : List (Nat × (Nat → Int32))} {lo lo' : Nat → Nat → Int64} {sl : List (Nat × Int32)} {f : Nat → Int64} (h2 : pu lo [(r, f)] = lo') : (wOf (mk M l lo sl)).set (po q) (ad q, .inl (cA, n, .inr (.inl f))) = wOf (mk M l lo' sl) := by
  rw [(h _).2]
  show wOf (pu M.1 l, pu lo [(r, f)], pu M.2.2 sl) = _
  rw [h2]
  rfl
/-- behind a call that wrote rows l2 and single ints sl2 -/
theorem mk_mk {M : Mm} {l l2 l' : List (Nat × (Nat → Int32))} {lo lo2 : Nat → Nat → Int64} {sl sl2 sl' : List (Nat × Int32)} (h1 : l2.all (fun e => hk l e.1) = true) (h2 : mg l l2 = l') (h3 : sl2.all (fun e => hk sl e.1) = true) (h4 : mg sl sl2 = sl') : mk (mk M l lo sl) l2 lo2 sl2 = mk M l' lo2 sl' := by
  show (pu (pu M.1 l) l2, lo2, pu (pu M.2.2 sl) sl2) = _
  rw [pu_mg _ _ _ h1, pu_mg _ _ _ h3, h2, h4]
  rfl
end
section
theorem w_0 : Cond.fieldLink RX0 15 "LeaningTrees$Forest" "sizes" "[I" ∈ lw_gd := gd (List.mem_of_getElem? (i := 34) (by decide +kernel)) rfl
theorem w_1 : Cond.fieldLink RX6 12 "LeaningTrees" "forest" "LLeaningTrees$Forest;" ∈ lw_gd := gd (List.mem_of_getElem? (i := 162) (by decide +kernel)) rfl
theorem w_2 : Cond.fieldLink RX6 70 "LeaningTrees" "tree" "I" ∈ lw_gd := gd (List.mem_of_getElem? (i := 171) (by decide +kernel)) rfl
theorem w_3 : Cond.methodLink RX6 162 yX0_sizeOf ∈ lw_gd := gd (List.mem_of_getElem? (i := 202) (by decide +kernel)) rfl
theorem w_4 : Cond.code yX0_sizeOf cX0_sizeOf 2 (some .int) ∈ lw_gd := gd (List.mem_of_getElem? (i := 205) (by decide +kernel)) rfl
theorem w_5 : Cond.initialized RX0 ∈ lw_gd := gd (List.mem_of_getElem? (i := 2) (by decide +kernel)) rfl
theorem w_6 : Cond.instanceMethod yX0_sizeOf ∈ lw_gd := gd (List.mem_of_getElem? (i := 203) (by decide +kernel)) rfl
theorem w_7 : Cond.selects RX0 yX0_sizeOf yX0_sizeOf ∈ lw_gd := gd (List.mem_of_getElem? (i := 204) (by decide +kernel)) rfl
theorem mvX0_sizeOf : MV yX0_sizeOf cX0_sizeOf 2 (some .int) RX0 1 := ⟨⟨w_6, w_7, w_5, w_4⟩, rfl, by decide, by decide, by decide +kernel⟩
theorem w_8 : Cond.methodLink RX0 25 yX0_isSize ∈ lw_gd := gd (List.mem_of_getElem? (i := 159) (by decide +kernel)) rfl
theorem w_9 : Cond.code yX0_isSize cX0_isSize 1 (some .boolean) ∈ lw_gd := gd (List.mem_of_getElem? (i := 161) (by decide +kernel)) rfl
theorem w_10 : Cond.static yX0_isSize ∈ lw_gd := gd (List.mem_of_getElem? (i := 160) (by decide +kernel)) rfl
theorem msX0_isSize : MS yX0_isSize cX0_isSize 1 (some .boolean) 1 := ⟨⟨w_10, w_5, w_9⟩, by decide, by decide, by decide +kernel⟩
theorem w_11 : Cond.fieldLink RX0 18 "LeaningTrees$Forest" "FIRST" "[I" ∈ lw_gd := gd (List.mem_of_getElem? (i := 27) (by decide +kernel)) rfl
theorem w_12 : Cond.fieldLink RX3 15 "LeaningTrees$Steps" "held" "I" ∈ lw_gd := gd (List.mem_of_getElem? (i := 99) (by decide +kernel)) rfl
theorem w_13 : Cond.methodLink RX6 73 yX0_isSize ∈ lw_gd := gd (List.mem_of_getElem? (i := 197) (by decide +kernel)) rfl
theorem w_14 : Cond.methodLink RX6 77 yX6_size ∈ lw_gd := gd (List.mem_of_getElem? (i := 198) (by decide +kernel)) rfl
theorem w_15 : Cond.code yX6_size cX6_size 1 (some .int) ∈ lw_gd := gd (List.mem_of_getElem? (i := 201) (by decide +kernel)) rfl
theorem w_16 : Cond.initialized RX6 ∈ lw_gd := gd (List.mem_of_getElem? (i := 1) (by decide +kernel)) rfl
theorem w_17 : Cond.instanceMethod yX6_size ∈ lw_gd := gd (List.mem_of_getElem? (i := 200) (by decide +kernel)) rfl
theorem w_18 : Cond.selects RX6 yX6_size yX6_size ∈ lw_gd := gp (List.mem_of_getElem? (i := 1) (by decide +kernel)) rfl
theorem mvX6_size : MV yX6_size cX6_size 1 (some .int) RX6 0 := ⟨⟨w_17, w_18, w_16, w_15⟩, rfl, by decide, by decide, by decide +kernel⟩
theorem w_19 : Cond.methodLink RX6 66 yX0_firstOf ∈ lw_gd := gd (List.mem_of_getElem? (i := 155) (by decide +kernel)) rfl
theorem w_20 : Cond.code yX0_firstOf cX0_firstOf 2 (some .int) ∈ lw_gd := gd (List.mem_of_getElem? (i := 158) (by decide +kernel)) rfl
theorem w_21 : Cond.instanceMethod yX0_firstOf ∈ lw_gd := gd (List.mem_of_getElem? (i := 156) (by decide +kernel)) rfl
theorem w_22 : Cond.selects RX0 yX0_firstOf yX0_firstOf ∈ lw_gd := gd (List.mem_of_getElem? (i := 157) (by decide +kernel)) rfl
theorem mvX0_firstOf : MV yX0_firstOf cX0_firstOf 2 (some .int) RX0 1 := ⟨⟨w_21, w_22, w_5, w_20⟩, rfl, by decide, by decide, by decide +kernel⟩
theorem w_23 : Cond.fieldLink RX6 37 "LeaningTrees" "steps" "LLeaningTrees$Steps;" ∈ lw_gd := gd (List.mem_of_getElem? (i := 165) (by decide +kernel)) rfl
theorem w_24 : Cond.methodLink RX6 81 yX3_clear ∈ lw_gd := gd (List.mem_of_getElem? (i := 206) (by decide +kernel)) rfl
theorem w_25 : Cond.code yX3_clear cX3_clear 1 none ∈ lw_gd := gd (List.mem_of_getElem? (i := 209) (by decide +kernel)) rfl
theorem w_26 : Cond.initialized RX3 ∈ lw_gd := gd (List.mem_of_getElem? (i := 5) (by decide +kernel)) rfl
theorem w_27 : Cond.instanceMethod yX3_clear ∈ lw_gd := gd (List.mem_of_getElem? (i := 207) (by decide +kernel)) rfl
theorem w_28 : Cond.selects RX3 yX3_clear yX3_clear ∈ lw_gd := gd (List.mem_of_getElem? (i := 208) (by decide +kernel)) rfl
theorem mvX3_clear : MV yX3_clear cX3_clear 1 none RX3 0 := ⟨⟨w_27, w_28, w_26, w_25⟩, rfl, by decide, by decide, by decide +kernel⟩
theorem w_29 : Cond.fieldLink RX0 11 "LeaningTrees$Forest" "codes" "[I" ∈ lw_gd := gd (List.mem_of_getElem? (i := 33) (by decide +kernel)) rfl
theorem w_30 : Cond.methodLink RX0 29 yX0_lastOf ∈ lw_gd := gd (List.mem_of_getElem? (i := 222) (by decide +kernel)) rfl
theorem w_31 : Cond.code yX0_lastOf cX0_lastOf 2 (some .int) ∈ lw_gd := gd (List.mem_of_getElem? (i := 225) (by decide +kernel)) rfl
theorem w_32 : Cond.instanceMethod yX0_lastOf ∈ lw_gd := gd (List.mem_of_getElem? (i := 223) (by decide +kernel)) rfl
theorem w_33 : Cond.selects RX0 yX0_lastOf yX0_lastOf ∈ lw_gd := gd (List.mem_of_getElem? (i := 224) (by decide +kernel)) rfl
theorem mvX0_lastOf : MV yX0_lastOf cX0_lastOf 2 (some .int) RX0 1 := ⟨⟨w_32, w_33, w_5, w_31⟩, rfl, by decide, by decide, by decide +kernel⟩
theorem w_34 : Cond.methodLink RX0 33 yX0_firstOf ∈ lw_gd := gd (List.mem_of_getElem? (i := 226) (by decide +kernel)) rfl
theorem w_35 : Cond.methodLink RX0 39 yX0_codeOf ∈ lw_gd := gd (List.mem_of_getElem? (i := 227) (by decide +kernel)) rfl
theorem w_36 : Cond.code yX0_codeOf cX0_codeOf 2 (some .int) ∈ lw_gd := gd (List.mem_of_getElem? (i := 230) (by decide +kernel)) rfl
theorem w_37 : Cond.instanceMethod yX0_codeOf ∈ lw_gd := gd (List.mem_of_getElem? (i := 228) (by decide +kernel)) rfl
theorem w_38 : Cond.selects RX0 yX0_codeOf yX0_codeOf ∈ lw_gd := gd (List.mem_of_getElem? (i := 229) (by decide +kernel)) rfl
theorem mvX0_codeOf : MV yX0_codeOf cX0_codeOf 2 (some .int) RX0 1 := ⟨⟨w_37, w_38, w_5, w_36⟩, rfl, by decide, by decide, by decide +kernel⟩
theorem w_39 : Cond.methodLink RX0 42 yX0_find ∈ lw_gd := gd (List.mem_of_getElem? (i := 218) (by decide +kernel)) rfl
theorem w_40 : Cond.code yX0_find cX0_find 6 (some .int) ∈ lw_gd := gd (List.mem_of_getElem? (i := 221) (by decide +kernel)) rfl
theorem w_41 : Cond.instanceMethod yX0_find ∈ lw_gd := gd (List.mem_of_getElem? (i := 219) (by decide +kernel)) rfl
theorem w_42 : Cond.selects RX0 yX0_find yX0_find ∈ lw_gd := gd (List.mem_of_getElem? (i := 220) (by decide +kernel)) rfl
theorem mvX0_find : MV yX0_find cX0_find 6 (some .int) RX0 2 := ⟨⟨w_41, w_42, w_5, w_40⟩, rfl, by decide, by decide, by decide +kernel⟩
theorem w_43 : Cond.fieldLink RX3 11 "LeaningTrees$Steps" "trees" "[I" ∈ lw_gd := gd (List.mem_of_getElem? (i := 98) (by decide +kernel)) rfl
theorem w_44 : Cond.methodLink RX3 19 arraycopyName ∈ lw_gd := gd (List.mem_of_getElem? (i := 243) (by decide +kernel)) rfl
theorem w_45 : Cond.methodLink RX6 293 yX3_add ∈ lw_gd := gd (List.mem_of_getElem? (i := 239) (by decide +kernel)) rfl
theorem w_46 : Cond.code yX3_add cX3_add 2 none ∈ lw_gd := gd (List.mem_of_getElem? (i := 242) (by decide +kernel)) rfl
theorem w_47 : Cond.instanceMethod yX3_add ∈ lw_gd := gd (List.mem_of_getElem? (i := 240) (by decide +kernel)) rfl
theorem w_48 : Cond.selects RX3 yX3_add yX3_add ∈ lw_gd := gd (List.mem_of_getElem? (i := 241) (by decide +kernel)) rfl
theorem mvX3_add : MV yX3_add cX3_add 2 none RX3 1 := ⟨⟨w_47, w_48, w_26, w_46⟩, rfl, by decide, by decide, by decide +kernel⟩
theorem w_49 : Cond.methodLink RX0 36 yX0_sizeOf ∈ lw_gd := gd (List.mem_of_getElem? (i := 250) (by decide +kernel)) rfl
theorem w_50 : Cond.methodLink RX6 118 yX6_become ∈ lw_gd := gd (List.mem_of_getElem? (i := 235) (by decide +kernel)) rfl
theorem w_51 : Cond.code yX6_become cX6_become 2 none ∈ lw_gd := gd (List.mem_of_getElem? (i := 238) (by decide +kernel)) rfl
theorem w_52 : Cond.instanceMethod yX6_become ∈ lw_gd := gd (List.mem_of_getElem? (i := 237) (by decide +kernel)) rfl
theorem w_53 : Cond.selects RX6 yX6_become yX6_become ∈ lw_gd := gp (List.mem_of_getElem? (i := 3) (by decide +kernel)) rfl
theorem mvX6_become : MV yX6_become cX6_become 2 none RX6 1 := ⟨⟨w_52, w_53, w_16, w_51⟩, rfl, by decide, by decide, by decide +kernel⟩
theorem w_54 : Cond.methodLink RX6 115 yX0_numberOf ∈ lw_gd := gd (List.mem_of_getElem? (i := 246) (by decide +kernel)) rfl
theorem w_55 : Cond.code yX0_numberOf cX0_numberOf 2 (some .int) ∈ lw_gd := gd (List.mem_of_getElem? (i := 249) (by decide +kernel)) rfl
theorem w_56 : Cond.instanceMethod yX0_numberOf ∈ lw_gd := gd (List.mem_of_getElem? (i := 247) (by decide +kernel)) rfl
theorem w_57 : Cond.selects RX0 yX0_numberOf yX0_numberOf ∈ lw_gd := gd (List.mem_of_getElem? (i := 248) (by decide +kernel)) rfl
theorem mvX0_numberOf : MV yX0_numberOf cX0_numberOf 2 (some .int) RX0 1 := ⟨⟨w_56, w_57, w_5, w_55⟩, rfl, by decide, by decide, by decide +kernel⟩
theorem w_58 : Cond.methodLink RX6 84 yX0_findDigits ∈ lw_gd := gd (List.mem_of_getElem? (i := 214) (by decide +kernel)) rfl
theorem w_59 : Cond.code yX0_findDigits cX0_findDigits 6 (some .int) ∈ lw_gd := gd (List.mem_of_getElem? (i := 217) (by decide +kernel)) rfl
theorem w_60 : Cond.instanceMethod yX0_findDigits ∈ lw_gd := gd (List.mem_of_getElem? (i := 215) (by decide +kernel)) rfl
theorem w_61 : Cond.selects RX0 yX0_findDigits yX0_findDigits ∈ lw_gd := gd (List.mem_of_getElem? (i := 216) (by decide +kernel)) rfl
theorem mvX0_findDigits : MV yX0_findDigits cX0_findDigits 6 (some .int) RX0 2 := ⟨⟨w_60, w_61, w_5, w_59⟩, rfl, by decide, by decide, by decide +kernel⟩
theorem w_62 : Cond.methodLink RX6 88 yX6_becomeAndTell ∈ lw_gd := gd (List.mem_of_getElem? (i := 231) (by decide +kernel)) rfl
theorem w_63 : Cond.code yX6_becomeAndTell cX6_becomeAndTell 2 (some .int) ∈ lw_gd := gd (List.mem_of_getElem? (i := 234) (by decide +kernel)) rfl
theorem w_64 : Cond.instanceMethod yX6_becomeAndTell ∈ lw_gd := gd (List.mem_of_getElem? (i := 233) (by decide +kernel)) rfl
theorem w_65 : Cond.selects RX6 yX6_becomeAndTell yX6_becomeAndTell ∈ lw_gd := gp (List.mem_of_getElem? (i := 2) (by decide +kernel)) rfl
theorem mvX6_becomeAndTell : MV yX6_becomeAndTell cX6_becomeAndTell 2 (some .int) RX6 1 := ⟨⟨w_64, w_65, w_16, w_63⟩, rfl, by decide, by decide, by decide +kernel⟩
theorem w_66 : Cond.methodLink RX0 46 yX0_rightSize ∈ lw_gd := gd (List.mem_of_getElem? (i := 271) (by decide +kernel)) rfl
theorem w_67 : Cond.code yX0_rightSize cX0_rightSize 3 (some .int) ∈ lw_gd := gd (List.mem_of_getElem? (i := 262) (by decide +kernel)) rfl
theorem w_68 : Cond.instanceMethod yX0_rightSize ∈ lw_gd := gd (List.mem_of_getElem? (i := 260) (by decide +kernel)) rfl
theorem w_69 : Cond.selects RX0 yX0_rightSize yX0_rightSize ∈ lw_gd := gd (List.mem_of_getElem? (i := 261) (by decide +kernel)) rfl
theorem mvX0_rightSize : MV yX0_rightSize cX0_rightSize 3 (some .int) RX0 2 := ⟨⟨w_68, w_69, w_5, w_67⟩, rfl, by decide, by decide, by decide +kernel⟩
theorem w_70 : Cond.methodLink RX0 49 yX0_end ∈ lw_gd := gd (List.mem_of_getElem? (i := 267) (by decide +kernel)) rfl
theorem w_71 : Cond.code yX0_end cX0_end 3 (some .int) ∈ lw_gd := gd (List.mem_of_getElem? (i := 270) (by decide +kernel)) rfl
theorem w_72 : Cond.instanceMethod yX0_end ∈ lw_gd := gd (List.mem_of_getElem? (i := 268) (by decide +kernel)) rfl
theorem w_73 : Cond.selects RX0 yX0_end yX0_end ∈ lw_gd := gd (List.mem_of_getElem? (i := 269) (by decide +kernel)) rfl
theorem mvX0_end : MV yX0_end cX0_end 3 (some .int) RX0 2 := ⟨⟨w_72, w_73, w_5, w_71⟩, rfl, by decide, by decide, by decide +kernel⟩
theorem w_74 : Cond.methodLink RX0 52 yX0_leftSize ∈ lw_gd := gd (List.mem_of_getElem? (i := 272) (by decide +kernel)) rfl
theorem w_75 : Cond.code yX0_leftSize cX0_leftSize 5 (some .int) ∈ lw_gd := gd (List.mem_of_getElem? (i := 275) (by decide +kernel)) rfl
theorem w_76 : Cond.instanceMethod yX0_leftSize ∈ lw_gd := gd (List.mem_of_getElem? (i := 273) (by decide +kernel)) rfl
theorem w_77 : Cond.selects RX0 yX0_leftSize yX0_leftSize ∈ lw_gd := gd (List.mem_of_getElem? (i := 274) (by decide +kernel)) rfl
theorem mvX0_leftSize : MV yX0_leftSize cX0_leftSize 5 (some .int) RX0 2 := ⟨⟨w_76, w_77, w_5, w_75⟩, rfl, by decide, by decide, by decide +kernel⟩
theorem w_78 : Cond.methodLink RX0 55 yX0_top ∈ lw_gd := gd (List.mem_of_getElem? (i := 280) (by decide +kernel)) rfl
theorem w_79 : Cond.code yX0_top cX0_top 5 (some .int) ∈ lw_gd := gd (List.mem_of_getElem? (i := 283) (by decide +kernel)) rfl
theorem w_80 : Cond.instanceMethod yX0_top ∈ lw_gd := gd (List.mem_of_getElem? (i := 282) (by decide +kernel)) rfl
theorem w_81 : Cond.selects RX0 yX0_top yX0_top ∈ lw_gd := gp (List.mem_of_getElem? (i := 5) (by decide +kernel)) rfl
theorem mvX0_top : MV yX0_top cX0_top 5 (some .int) RX0 3 := ⟨⟨w_80, w_81, w_5, w_79⟩, rfl, by decide, by decide, by decide +kernel⟩
theorem w_82 : Cond.methodLink RX6 91 yX6_isNode ∈ lw_gd := gd (List.mem_of_getElem? (i := 255) (by decide +kernel)) rfl
theorem w_83 : Cond.code yX6_isNode cX6_isNode 2 (some .boolean) ∈ lw_gd := gd (List.mem_of_getElem? (i := 258) (by decide +kernel)) rfl
theorem w_84 : Cond.instanceMethod yX6_isNode ∈ lw_gd := gd (List.mem_of_getElem? (i := 257) (by decide +kernel)) rfl
theorem w_85 : Cond.selects RX6 yX6_isNode yX6_isNode ∈ lw_gd := gp (List.mem_of_getElem? (i := 4) (by decide +kernel)) rfl
theorem mvX6_isNode : MV yX6_isNode cX6_isNode 2 (some .boolean) RX6 1 := ⟨⟨w_84, w_85, w_16, w_83⟩, rfl, by decide, by decide, by decide +kernel⟩
theorem w_86 : Cond.methodLink RX6 94 yX0_rightSize ∈ lw_gd := gd (List.mem_of_getElem? (i := 259) (by decide +kernel)) rfl
theorem w_87 : Cond.methodLink RX6 97 yX0_parent ∈ lw_gd := gd (List.mem_of_getElem? (i := 263) (by decide +kernel)) rfl
theorem w_88 : Cond.code yX0_parent cX0_parent 5 (some .int) ∈ lw_gd := gd (List.mem_of_getElem? (i := 266) (by decide +kernel)) rfl
theorem w_89 : Cond.instanceMethod yX0_parent ∈ lw_gd := gd (List.mem_of_getElem? (i := 264) (by decide +kernel)) rfl
theorem w_90 : Cond.selects RX0 yX0_parent yX0_parent ∈ lw_gd := gd (List.mem_of_getElem? (i := 265) (by decide +kernel)) rfl
theorem mvX0_parent : MV yX0_parent cX0_parent 5 (some .int) RX0 2 := ⟨⟨w_89, w_90, w_5, w_88⟩, rfl, by decide, by decide, by decide +kernel⟩
theorem w_91 : Cond.methodLink RX6 100 yX0_leftChild ∈ lw_gd := gd (List.mem_of_getElem? (i := 276) (by decide +kernel)) rfl
theorem w_92 : Cond.code yX0_leftChild cX0_leftChild 3 (some .int) ∈ lw_gd := gd (List.mem_of_getElem? (i := 279) (by decide +kernel)) rfl
theorem w_93 : Cond.instanceMethod yX0_leftChild ∈ lw_gd := gd (List.mem_of_getElem? (i := 277) (by decide +kernel)) rfl
theorem w_94 : Cond.selects RX0 yX0_leftChild yX0_leftChild ∈ lw_gd := gd (List.mem_of_getElem? (i := 278) (by decide +kernel)) rfl
theorem mvX0_leftChild : MV yX0_leftChild cX0_leftChild 3 (some .int) RX0 2 := ⟨⟨w_93, w_94, w_5, w_92⟩, rfl, by decide, by decide, by decide +kernel⟩
theorem w_95 : Cond.methodLink RX6 103 yX0_rightChild ∈ lw_gd := gd (List.mem_of_getElem? (i := 284) (by decide +kernel)) rfl
theorem w_96 : Cond.code yX0_rightChild cX0_rightChild 3 (some .int) ∈ lw_gd := gd (List.mem_of_getElem? (i := 287) (by decide +kernel)) rfl
theorem w_97 : Cond.instanceMethod yX0_rightChild ∈ lw_gd := gd (List.mem_of_getElem? (i := 285) (by decide +kernel)) rfl
theorem w_98 : Cond.selects RX0 yX0_rightChild yX0_rightChild ∈ lw_gd := gd (List.mem_of_getElem? (i := 286) (by decide +kernel)) rfl
theorem mvX0_rightChild : MV yX0_rightChild cX0_rightChild 3 (some .int) RX0 2 := ⟨⟨w_97, w_98, w_5, w_96⟩, rfl, by decide, by decide, by decide +kernel⟩
theorem w_99 : Cond.methodLink RX6 106 yX0_leftSize ∈ lw_gd := gd (List.mem_of_getElem? (i := 288) (by decide +kernel)) rfl
theorem w_100 : Cond.methodLink RX6 109 yX0_depth ∈ lw_gd := gd (List.mem_of_getElem? (i := 289) (by decide +kernel)) rfl
theorem w_101 : Cond.code yX0_depth cX0_depth 5 (some .int) ∈ lw_gd := gd (List.mem_of_getElem? (i := 292) (by decide +kernel)) rfl
theorem w_102 : Cond.instanceMethod yX0_depth ∈ lw_gd := gd (List.mem_of_getElem? (i := 290) (by decide +kernel)) rfl
theorem w_103 : Cond.selects RX0 yX0_depth yX0_depth ∈ lw_gd := gd (List.mem_of_getElem? (i := 291) (by decide +kernel)) rfl
theorem mvX0_depth : MV yX0_depth cX0_depth 5 (some .int) RX0 2 := ⟨⟨w_102, w_103, w_5, w_101⟩, rfl, by decide, by decide, by decide +kernel⟩
theorem w_104 : Cond.methodLink RX6 112 yX0_howMany ∈ lw_gd := gd (List.mem_of_getElem? (i := 297) (by decide +kernel)) rfl
theorem w_105 : Cond.code yX0_howMany cX0_howMany 2 (some .int) ∈ lw_gd := gd (List.mem_of_getElem? (i := 300) (by decide +kernel)) rfl
theorem w_106 : Cond.instanceMethod yX0_howMany ∈ lw_gd := gd (List.mem_of_getElem? (i := 298) (by decide +kernel)) rfl
theorem w_107 : Cond.selects RX0 yX0_howMany yX0_howMany ∈ lw_gd := gd (List.mem_of_getElem? (i := 299) (by decide +kernel)) rfl
theorem mvX0_howMany : MV yX0_howMany cX0_howMany 2 (some .int) RX0 1 := ⟨⟨w_106, w_107, w_5, w_105⟩, rfl, by decide, by decide, by decide +kernel⟩
theorem w_108 : Cond.methodLink RX6 122 yX0_asDigits ∈ lw_gd := gd (List.mem_of_getElem? (i := 313) (by decide +kernel)) rfl
theorem w_109 : Cond.code yX0_asDigits cX0_asDigits 4 (some .int) ∈ lw_gd := gd (List.mem_of_getElem? (i := 316) (by decide +kernel)) rfl
theorem w_110 : Cond.instanceMethod yX0_asDigits ∈ lw_gd := gd (List.mem_of_getElem? (i := 314) (by decide +kernel)) rfl
theorem w_111 : Cond.selects RX0 yX0_asDigits yX0_asDigits ∈ lw_gd := gd (List.mem_of_getElem? (i := 315) (by decide +kernel)) rfl
theorem mvX0_asDigits : MV yX0_asDigits cX0_asDigits 4 (some .int) RX0 1 := ⟨⟨w_110, w_111, w_5, w_109⟩, rfl, by decide, by decide, by decide +kernel⟩
theorem w_112 : Cond.methodLink RX0 58 yX0_isLeftChild ∈ lw_gd := gd (List.mem_of_getElem? (i := 325) (by decide +kernel)) rfl
theorem w_113 : Cond.code yX0_isLeftChild cX0_isLeftChild 5 (some .boolean) ∈ lw_gd := gd (List.mem_of_getElem? (i := 328) (by decide +kernel)) rfl
theorem w_114 : Cond.instanceMethod yX0_isLeftChild ∈ lw_gd := gd (List.mem_of_getElem? (i := 326) (by decide +kernel)) rfl
theorem w_115 : Cond.selects RX0 yX0_isLeftChild yX0_isLeftChild ∈ lw_gd := gd (List.mem_of_getElem? (i := 327) (by decide +kernel)) rfl
theorem mvX0_isLeftChild : MV yX0_isLeftChild cX0_isLeftChild 5 (some .boolean) RX0 2 := ⟨⟨w_114, w_115, w_5, w_113⟩, rfl, by decide, by decide, by decide +kernel⟩
theorem w_116 : Cond.methodLink RX0 62 yX0_digitAt ∈ lw_gd := gd (List.mem_of_getElem? (i := 329) (by decide +kernel)) rfl
theorem w_117 : Cond.code yX0_digitAt cX0_digitAt 3 (some .int) ∈ lw_gd := gd (List.mem_of_getElem? (i := 331) (by decide +kernel)) rfl
theorem w_118 : Cond.static yX0_digitAt ∈ lw_gd := gd (List.mem_of_getElem? (i := 330) (by decide +kernel)) rfl
theorem msX0_digitAt : MS yX0_digitAt cX0_digitAt 3 (some .int) 3 := ⟨⟨w_118, w_5, w_117⟩, by decide, by decide, by decide +kernel⟩
theorem w_119 : Cond.methodLink RX6 125 yX0_turnedUp ∈ lw_gd := gd (List.mem_of_getElem? (i := 321) (by decide +kernel)) rfl
theorem w_120 : Cond.code yX0_turnedUp cX0_turnedUp 5 (some .int) ∈ lw_gd := gd (List.mem_of_getElem? (i := 324) (by decide +kernel)) rfl
theorem w_121 : Cond.instanceMethod yX0_turnedUp ∈ lw_gd := gd (List.mem_of_getElem? (i := 322) (by decide +kernel)) rfl
theorem w_122 : Cond.selects RX0 yX0_turnedUp yX0_turnedUp ∈ lw_gd := gd (List.mem_of_getElem? (i := 323) (by decide +kernel)) rfl
theorem mvX0_turnedUp : MV yX0_turnedUp cX0_turnedUp 5 (some .int) RX0 2 := ⟨⟨w_121, w_122, w_5, w_120⟩, rfl, by decide, by decide, by decide +kernel⟩
theorem w_123 : Cond.methodLink RX6 128 yX0_turnedBack ∈ lw_gd := gd (List.mem_of_getElem? (i := 336) (by decide +kernel)) rfl
theorem w_124 : Cond.code yX0_turnedBack cX0_turnedBack 5 (some .int) ∈ lw_gd := gd (List.mem_of_getElem? (i := 339) (by decide +kernel)) rfl
theorem w_125 : Cond.instanceMethod yX0_turnedBack ∈ lw_gd := gd (List.mem_of_getElem? (i := 337) (by decide +kernel)) rfl
theorem w_126 : Cond.selects RX0 yX0_turnedBack yX0_turnedBack ∈ lw_gd := gd (List.mem_of_getElem? (i := 338) (by decide +kernel)) rfl
theorem mvX0_turnedBack : MV yX0_turnedBack cX0_turnedBack 5 (some .int) RX0 2 := ⟨⟨w_125, w_126, w_5, w_124⟩, rfl, by decide, by decide, by decide +kernel⟩
theorem w_127 : Cond.constant "java/lang/Integer" 265 (1431655765 : Int32) ∈ lw_gd := gd (List.mem_of_getElem? (i := 351) (by decide +kernel)) rfl
theorem w_128 : Cond.constant "java/lang/Integer" 266 (858993459 : Int32) ∈ lw_gd := gd (List.mem_of_getElem? (i := 352) (by decide +kernel)) rfl
theorem w_129 : Cond.constant "java/lang/Integer" 267 (252645135 : Int32) ∈ lw_gd := gd (List.mem_of_getElem? (i := 353) (by decide +kernel)) rfl
theorem w_130 : Cond.methodLink RX6 131 yX0_leftChildren ∈ lw_gd := gd (List.mem_of_getElem? (i := 344) (by decide +kernel)) rfl
theorem w_131 : Cond.code yX0_leftChildren cX0_leftChildren 4 (some .int) ∈ lw_gd := gd (List.mem_of_getElem? (i := 347) (by decide +kernel)) rfl
theorem w_132 : Cond.instanceMethod yX0_leftChildren ∈ lw_gd := gd (List.mem_of_getElem? (i := 345) (by decide +kernel)) rfl
theorem w_133 : Cond.selects RX0 yX0_leftChildren yX0_leftChildren ∈ lw_gd := gd (List.mem_of_getElem? (i := 346) (by decide +kernel)) rfl
theorem mvX0_leftChildren : MV yX0_leftChildren cX0_leftChildren 4 (some .int) RX0 1 := ⟨⟨w_132, w_133, w_5, w_131⟩, rfl, by decide, by decide, by decide +kernel⟩
theorem w_134 : Cond.methodLink RX6 134 yJ0_bitCount ∈ lw_gd := gd (List.mem_of_getElem? (i := 348) (by decide +kernel)) rfl
theorem w_135 : Cond.code yJ0_bitCount prog_10_method_49_code 1 (some .int) ∈ lw_gd := gd (List.mem_of_getElem? (i := 350) (by decide +kernel)) rfl
theorem w_136 : Cond.initialized "java/lang/Integer" ∈ lw_gd := gd (List.mem_of_getElem? (i := 11) (by decide +kernel)) rfl
theorem w_137 : Cond.static yJ0_bitCount ∈ lw_gd := gd (List.mem_of_getElem? (i := 349) (by decide +kernel)) rfl
theorem msJ0_bitCount : MS yJ0_bitCount prog_10_method_49_code 1 (some .int) 1 := ⟨⟨w_137, w_136, w_135⟩, by decide, by decide, by decide +kernel⟩
theorem w_138 : Cond.methodLink RX6 139 yX0_withRightChild ∈ lw_gd := gd (List.mem_of_getElem? (i := 354) (by decide +kernel)) rfl
theorem w_139 : Cond.code yX0_withRightChild cX0_withRightChild 5 (some .int) ∈ lw_gd := gd (List.mem_of_getElem? (i := 357) (by decide +kernel)) rfl
theorem w_140 : Cond.instanceMethod yX0_withRightChild ∈ lw_gd := gd (List.mem_of_getElem? (i := 355) (by decide +kernel)) rfl
theorem w_141 : Cond.selects RX0 yX0_withRightChild yX0_withRightChild ∈ lw_gd := gd (List.mem_of_getElem? (i := 356) (by decide +kernel)) rfl
theorem mvX0_withRightChild : MV yX0_withRightChild cX0_withRightChild 5 (some .int) RX0 1 := ⟨⟨w_140, w_141, w_5, w_139⟩, rfl, by decide, by decide, by decide +kernel⟩
theorem w_142 : Cond.methodLink RX6 142 yX0_mirrored ∈ lw_gd := gd (List.mem_of_getElem? (i := 362) (by decide +kernel)) rfl
theorem w_143 : Cond.code yX0_mirrored cX0_mirrored 5 (some .int) ∈ lw_gd := gd (List.mem_of_getElem? (i := 365) (by decide +kernel)) rfl
theorem w_144 : Cond.instanceMethod yX0_mirrored ∈ lw_gd := gd (List.mem_of_getElem? (i := 363) (by decide +kernel)) rfl
theorem w_145 : Cond.selects RX0 yX0_mirrored yX0_mirrored ∈ lw_gd := gd (List.mem_of_getElem? (i := 364) (by decide +kernel)) rfl
theorem mvX0_mirrored : MV yX0_mirrored cX0_mirrored 5 (some .int) RX0 1 := ⟨⟨w_144, w_145, w_5, w_143⟩, rfl, by decide, by decide, by decide +kernel⟩
theorem w_146 : Cond.methodLink RX6 145 yX3_takeLatest ∈ lw_gd := gd (List.mem_of_getElem? (i := 370) (by decide +kernel)) rfl
theorem w_147 : Cond.code yX3_takeLatest cX3_takeLatest 1 (some .int) ∈ lw_gd := gd (List.mem_of_getElem? (i := 373) (by decide +kernel)) rfl
theorem w_148 : Cond.instanceMethod yX3_takeLatest ∈ lw_gd := gd (List.mem_of_getElem? (i := 371) (by decide +kernel)) rfl
theorem w_149 : Cond.selects RX3 yX3_takeLatest yX3_takeLatest ∈ lw_gd := gd (List.mem_of_getElem? (i := 372) (by decide +kernel)) rfl
theorem mvX3_takeLatest : MV yX3_takeLatest cX3_takeLatest 1 (some .int) RX3 0 := ⟨⟨w_148, w_149, w_26, w_147⟩, rfl, by decide, by decide, by decide +kernel⟩
theorem w_150 : Cond.methodLink RX6 148 yX3_held ∈ lw_gd := gd (List.mem_of_getElem? (i := 374) (by decide +kernel)) rfl
theorem w_151 : Cond.code yX3_held cX3_held 1 (some .int) ∈ lw_gd := gd (List.mem_of_getElem? (i := 377) (by decide +kernel)) rfl
theorem w_152 : Cond.instanceMethod yX3_held ∈ lw_gd := gd (List.mem_of_getElem? (i := 375) (by decide +kernel)) rfl
theorem w_153 : Cond.selects RX3 yX3_held yX3_held ∈ lw_gd := gd (List.mem_of_getElem? (i := 376) (by decide +kernel)) rfl
theorem mvX3_held : MV yX3_held cX3_held 1 (some .int) RX3 0 := ⟨⟨w_152, w_153, w_26, w_151⟩, rfl, by decide, by decide, by decide +kernel⟩
theorem w_154 : Cond.methodLink RX6 211 yX6_isShelf ∈ lw_gd := gd (List.mem_of_getElem? (i := 394) (by decide +kernel)) rfl
theorem w_155 : Cond.code yX6_isShelf cX6_isShelf 1 (some .boolean) ∈ lw_gd := gd (List.mem_of_getElem? (i := 396) (by decide +kernel)) rfl
theorem w_156 : Cond.static yX6_isShelf ∈ lw_gd := gd (List.mem_of_getElem? (i := 395) (by decide +kernel)) rfl
theorem msX6_isShelf : MS yX6_isShelf cX6_isShelf 1 (some .boolean) 1 := ⟨⟨w_156, w_16, w_155⟩, by decide, by decide, by decide +kernel⟩
theorem w_157 : Cond.fieldLink RX6 55 "LeaningTrees" "shelves" "[I" ∈ lw_gd := gd (List.mem_of_getElem? (i := 168) (by decide +kernel)) rfl
theorem w_158 : Cond.methodLink RX6 214 yX6_lack ∈ lw_gd := gd (List.mem_of_getElem? (i := 390) (by decide +kernel)) rfl
theorem w_159 : Cond.code yX6_lack cX6_lack 2 (some .int) ∈ lw_gd := gd (List.mem_of_getElem? (i := 393) (by decide +kernel)) rfl
theorem w_160 : Cond.instanceMethod yX6_lack ∈ lw_gd := gd (List.mem_of_getElem? (i := 392) (by decide +kernel)) rfl
theorem w_161 : Cond.selects RX6 yX6_lack yX6_lack ∈ lw_gd := gp (List.mem_of_getElem? (i := 8) (by decide +kernel)) rfl
theorem mvX6_lack : MV yX6_lack cX6_lack 2 (some .int) RX6 1 := ⟨⟨w_160, w_161, w_16, w_159⟩, rfl, by decide, by decide, by decide +kernel⟩
theorem w_162 : Cond.methodLink RX6 165 yX6_refusal ∈ lw_gd := gd (List.mem_of_getElem? (i := 386) (by decide +kernel)) rfl
theorem w_163 : Cond.code yX6_refusal cX6_refusal 3 (some .int) ∈ lw_gd := gd (List.mem_of_getElem? (i := 389) (by decide +kernel)) rfl
theorem w_164 : Cond.instanceMethod yX6_refusal ∈ lw_gd := gd (List.mem_of_getElem? (i := 388) (by decide +kernel)) rfl
theorem w_165 : Cond.selects RX6 yX6_refusal yX6_refusal ∈ lw_gd := gp (List.mem_of_getElem? (i := 7) (by decide +kernel)) rfl
theorem mvX6_refusal : MV yX6_refusal cX6_refusal 3 (some .int) RX6 1 := ⟨⟨w_164, w_165, w_16, w_163⟩, rfl, by decide, by decide, by decide +kernel⟩
theorem w_166 : Cond.constant RX2 24 (143165576 : Int32) ∈ lw_gd := gd (List.mem_of_getElem? (i := 405) (by decide +kernel)) rfl
theorem w_167 : Cond.fieldLink RX2 9 "LeaningTrees$Order" "forest" "LLeaningTrees$Forest;" ∈ lw_gd := gd (List.mem_of_getElem? (i := 47) (by decide +kernel)) rfl
theorem w_168 : Cond.methodLink RX2 25 yX0_codeOf ∈ lw_gd := gd (List.mem_of_getElem? (i := 401) (by decide +kernel)) rfl
theorem w_169 : Cond.methodLink RX2 29 yX2_noMore ∈ lw_gd := gd (List.mem_of_getElem? (i := 402) (by decide +kernel)) rfl
theorem w_170 : Cond.code yX2_noMore cX2_noMore 2 (some .boolean) ∈ lw_gd := gd (List.mem_of_getElem? (i := 404) (by decide +kernel)) rfl
theorem w_171 : Cond.initialized RX2 ∈ lw_gd := gd (List.mem_of_getElem? (i := 3) (by decide +kernel)) rfl
theorem w_172 : Cond.static yX2_noMore ∈ lw_gd := gd (List.mem_of_getElem? (i := 403) (by decide +kernel)) rfl
theorem msX2_noMore : MS yX2_noMore cX2_noMore 2 (some .boolean) 2 := ⟨⟨w_172, w_171, w_170⟩, by decide, by decide, by decide +kernel⟩
theorem w_173 : Cond.methodLink RX6 151 yX6_refusalOfTwo ∈ lw_gd := gd (List.mem_of_getElem? (i := 382) (by decide +kernel)) rfl
theorem w_174 : Cond.code yX6_refusalOfTwo cX6_refusalOfTwo 3 (some .int) ∈ lw_gd := gd (List.mem_of_getElem? (i := 385) (by decide +kernel)) rfl
theorem w_175 : Cond.instanceMethod yX6_refusalOfTwo ∈ lw_gd := gd (List.mem_of_getElem? (i := 384) (by decide +kernel)) rfl
theorem w_176 : Cond.selects RX6 yX6_refusalOfTwo yX6_refusalOfTwo ∈ lw_gd := gp (List.mem_of_getElem? (i := 6) (by decide +kernel)) rfl
theorem mvX6_refusalOfTwo : MV yX6_refusalOfTwo cX6_refusalOfTwo 3 (some .int) RX6 2 := ⟨⟨w_175, w_176, w_16, w_174⟩, rfl, by decide, by decide, by decide +kernel⟩
theorem w_177 : Cond.fieldLink RX6 23 "LeaningTrees" "order" "LLeaningTrees$Order;" ∈ lw_gd := gd (List.mem_of_getElem? (i := 163) (by decide +kernel)) rfl
theorem w_178 : Cond.methodLink RX6 154 yX2_isBelow ∈ lw_gd := gd (List.mem_of_getElem? (i := 397) (by decide +kernel)) rfl
theorem w_179 : Cond.code yX2_isBelow cX2_isBelow 3 (some .boolean) ∈ lw_gd := gd (List.mem_of_getElem? (i := 400) (by decide +kernel)) rfl
theorem w_180 : Cond.instanceMethod yX2_isBelow ∈ lw_gd := gd (List.mem_of_getElem? (i := 398) (by decide +kernel)) rfl
theorem w_181 : Cond.selects RX2 yX2_isBelow yX2_isBelow ∈ lw_gd := gd (List.mem_of_getElem? (i := 399) (by decide +kernel)) rfl
theorem mvX2_isBelow : MV yX2_isBelow cX2_isBelow 3 (some .boolean) RX2 2 := ⟨⟨w_180, w_181, w_171, w_179⟩, rfl, by decide, by decide, by decide +kernel⟩
theorem w_182 : Cond.methodLink RX2 40 yX0_sizeOf ∈ lw_gd := gd (List.mem_of_getElem? (i := 418) (by decide +kernel)) rfl
theorem w_183 : Cond.methodLink RX2 58 yX0_end ∈ lw_gd := gd (List.mem_of_getElem? (i := 419) (by decide +kernel)) rfl
theorem w_184 : Cond.methodLink RX2 61 Lib.Math.max.name ∈ lw_gd := gd (List.mem_of_getElem? (i := 420) (by decide +kernel)) rfl
theorem w_185 : Cond.methodLink RX2 64 yX0_digitOf ∈ lw_gd := gd (List.mem_of_getElem? (i := 423) (by decide +kernel)) rfl
theorem w_186 : Cond.code yX0_digitOf cX0_digitOf 3 (some .int) ∈ lw_gd := gd (List.mem_of_getElem? (i := 425) (by decide +kernel)) rfl
theorem w_187 : Cond.static yX0_digitOf ∈ lw_gd := gd (List.mem_of_getElem? (i := 424) (by decide +kernel)) rfl
theorem msX0_digitOf : MS yX0_digitOf cX0_digitOf 3 (some .int) 3 := ⟨⟨w_187, w_5, w_186⟩, by decide, by decide, by decide +kernel⟩
theorem w_188 : Cond.methodLink RX2 51 yX0_digitAt ∈ lw_gd := gd (List.mem_of_getElem? (i := 426) (by decide +kernel)) rfl
theorem w_189 : Cond.methodLink RX2 55 yX0_find ∈ lw_gd := gd (List.mem_of_getElem? (i := 427) (by decide +kernel)) rfl
theorem w_190 : Cond.methodLink RX2 43 yX0_rightSize ∈ lw_gd := gd (List.mem_of_getElem? (i := 432) (by decide +kernel)) rfl
theorem w_191 : Cond.methodLink RX2 46 Lib.Math.min.name ∈ lw_gd := gd (List.mem_of_getElem? (i := 433) (by decide +kernel)) rfl
theorem w_192 : Cond.methodLink RX2 37 yX2_meetOf ∈ lw_gd := gd (List.mem_of_getElem? (i := 428) (by decide +kernel)) rfl
theorem w_193 : Cond.code yX2_meetOf cX2_meetOf 7 (some .int) ∈ lw_gd := gd (List.mem_of_getElem? (i := 431) (by decide +kernel)) rfl
theorem w_194 : Cond.instanceMethod yX2_meetOf ∈ lw_gd := gd (List.mem_of_getElem? (i := 430) (by decide +kernel)) rfl
theorem w_195 : Cond.selects RX2 yX2_meetOf yX2_meetOf ∈ lw_gd := gp (List.mem_of_getElem? (i := 10) (by decide +kernel)) rfl
theorem mvX2_meetOf : MV yX2_meetOf cX2_meetOf 7 (some .int) RX2 2 := ⟨⟨w_194, w_195, w_171, w_193⟩, rfl, by decide, by decide, by decide +kernel⟩
theorem w_196 : Cond.methodLink RX2 33 yX2_joinOf ∈ lw_gd := gd (List.mem_of_getElem? (i := 414) (by decide +kernel)) rfl
theorem w_197 : Cond.code yX2_joinOf cX2_joinOf 8 (some .int) ∈ lw_gd := gd (List.mem_of_getElem? (i := 417) (by decide +kernel)) rfl
theorem w_198 : Cond.instanceMethod yX2_joinOf ∈ lw_gd := gd (List.mem_of_getElem? (i := 416) (by decide +kernel)) rfl
theorem w_199 : Cond.selects RX2 yX2_joinOf yX2_joinOf ∈ lw_gd := gp (List.mem_of_getElem? (i := 9) (by decide +kernel)) rfl
theorem mvX2_joinOf : MV yX2_joinOf cX2_joinOf 8 (some .int) RX2 2 := ⟨⟨w_198, w_199, w_171, w_197⟩, rfl, by decide, by decide, by decide +kernel⟩
theorem w_200 : Cond.methodLink RX6 158 yX2_meetOrJoin ∈ lw_gd := gd (List.mem_of_getElem? (i := 410) (by decide +kernel)) rfl
theorem w_201 : Cond.code yX2_meetOrJoin cX2_meetOrJoin 4 (some .int) ∈ lw_gd := gd (List.mem_of_getElem? (i := 413) (by decide +kernel)) rfl
theorem w_202 : Cond.instanceMethod yX2_meetOrJoin ∈ lw_gd := gd (List.mem_of_getElem? (i := 411) (by decide +kernel)) rfl
theorem w_203 : Cond.selects RX2 yX2_meetOrJoin yX2_meetOrJoin ∈ lw_gd := gd (List.mem_of_getElem? (i := 412) (by decide +kernel)) rfl
theorem mvX2_meetOrJoin : MV yX2_meetOrJoin cX2_meetOrJoin 4 (some .int) RX2 3 := ⟨⟨w_202, w_203, w_171, w_201⟩, rfl, by decide, by decide, by decide +kernel⟩
theorem w_204 : Cond.methodLink RX2 67 yX2_isWithin ∈ lw_gd := gd (List.mem_of_getElem? (i := 448) (by decide +kernel)) rfl
theorem w_205 : Cond.code yX2_isWithin cX2_isWithin 3 (some .boolean) ∈ lw_gd := gd (List.mem_of_getElem? (i := 450) (by decide +kernel)) rfl
theorem w_206 : Cond.static yX2_isWithin ∈ lw_gd := gd (List.mem_of_getElem? (i := 449) (by decide +kernel)) rfl
theorem msX2_isWithin : MS yX2_isWithin cX2_isWithin 3 (some .boolean) 3 := ⟨⟨w_206, w_171, w_205⟩, by decide, by decide, by decide +kernel⟩
theorem w_207 : Cond.methodLink RX6 171 yX2_nthBetween ∈ lw_gd := gd (List.mem_of_getElem? (i := 451) (by decide +kernel)) rfl
theorem w_208 : Cond.code yX2_nthBetween cX2_nthBetween 8 (some .int) ∈ lw_gd := gd (List.mem_of_getElem? (i := 454) (by decide +kernel)) rfl
theorem w_209 : Cond.instanceMethod yX2_nthBetween ∈ lw_gd := gd (List.mem_of_getElem? (i := 452) (by decide +kernel)) rfl
theorem w_210 : Cond.selects RX2 yX2_nthBetween yX2_nthBetween ∈ lw_gd := gd (List.mem_of_getElem? (i := 453) (by decide +kernel)) rfl
theorem mvX2_nthBetween : MV yX2_nthBetween cX2_nthBetween 8 (some .int) RX2 3 := ⟨⟨w_209, w_210, w_171, w_208⟩, rfl, by decide, by decide, by decide +kernel⟩
theorem w_211 : Cond.methodLink RX6 168 yX2_howManyBetween ∈ lw_gd := gd (List.mem_of_getElem? (i := 444) (by decide +kernel)) rfl
theorem w_212 : Cond.code yX2_howManyBetween cX2_howManyBetween 7 (some .int) ∈ lw_gd := gd (List.mem_of_getElem? (i := 447) (by decide +kernel)) rfl
theorem w_213 : Cond.instanceMethod yX2_howManyBetween ∈ lw_gd := gd (List.mem_of_getElem? (i := 445) (by decide +kernel)) rfl
theorem w_214 : Cond.selects RX2 yX2_howManyBetween yX2_howManyBetween ∈ lw_gd := gd (List.mem_of_getElem? (i := 446) (by decide +kernel)) rfl
theorem mvX2_howManyBetween : MV yX2_howManyBetween cX2_howManyBetween 7 (some .int) RX2 2 := ⟨⟨w_213, w_214, w_171, w_212⟩, rfl, by decide, by decide, by decide +kernel⟩
theorem w_215 : Cond.methodLink RX5 41 yX0_isSize ∈ lw_gd := gd (List.mem_of_getElem? (i := 471) (by decide +kernel)) rfl
theorem w_216 : Cond.fieldLink RX5 24 "LeaningTrees$Ways" "learned" "[Z" ∈ lw_gd := gd (List.mem_of_getElem? (i := 66) (by decide +kernel)) rfl
theorem w_217 : Cond.fieldLink RX5 9 "LeaningTrees$Ways" "forest" "LLeaningTrees$Forest;" ∈ lw_gd := gd (List.mem_of_getElem? (i := 63) (by decide +kernel)) rfl
theorem w_218 : Cond.methodLink RX5 45 yX0_firstOf ∈ lw_gd := gd (List.mem_of_getElem? (i := 472) (by decide +kernel)) rfl
theorem w_219 : Cond.methodLink RX5 49 yX0_lastOf ∈ lw_gd := gd (List.mem_of_getElem? (i := 473) (by decide +kernel)) rfl
theorem w_220 : Cond.methodLink RX5 52 yX0_turnedUp ∈ lw_gd := gd (List.mem_of_getElem? (i := 474) (by decide +kernel)) rfl
theorem w_221 : Cond.methodLink RX5 56 yX5_isTree ∈ lw_gd := gd (List.mem_of_getElem? (i := 463) (by decide +kernel)) rfl
theorem w_222 : Cond.code yX5_isTree cX5_isTree 1 (some .boolean) ∈ lw_gd := gd (List.mem_of_getElem? (i := 465) (by decide +kernel)) rfl
theorem w_223 : Cond.initialized RX5 ∈ lw_gd := gd (List.mem_of_getElem? (i := 4) (by decide +kernel)) rfl
theorem w_224 : Cond.static yX5_isTree ∈ lw_gd := gd (List.mem_of_getElem? (i := 464) (by decide +kernel)) rfl
theorem msX5_isTree : MS yX5_isTree cX5_isTree 1 (some .boolean) 1 := ⟨⟨w_224, w_223, w_222⟩, by decide, by decide, by decide +kernel⟩
theorem w_225 : Cond.fieldLink RX5 17 "LeaningTrees$Ways" "ups" "[I" ∈ lw_gd := gd (List.mem_of_getElem? (i := 64) (by decide +kernel)) rfl
theorem w_226 : Cond.methodLink RX5 59 yX5_turnPlace ∈ lw_gd := gd (List.mem_of_getElem? (i := 475) (by decide +kernel)) rfl
theorem w_227 : Cond.code yX5_turnPlace cX5_turnPlace 2 (some .int) ∈ lw_gd := gd (List.mem_of_getElem? (i := 477) (by decide +kernel)) rfl
theorem w_228 : Cond.static yX5_turnPlace ∈ lw_gd := gd (List.mem_of_getElem? (i := 476) (by decide +kernel)) rfl
theorem msX5_turnPlace : MS yX5_turnPlace cX5_turnPlace 2 (some .int) 2 := ⟨⟨w_228, w_223, w_227⟩, by decide, by decide, by decide +kernel⟩
theorem w_229 : Cond.fieldLink RX5 21 "LeaningTrees$Ways" "backs" "[I" ∈ lw_gd := gd (List.mem_of_getElem? (i := 65) (by decide +kernel)) rfl
theorem w_230 : Cond.fieldLink RX5 28 "LeaningTrees$Ways" "turns" "[I" ∈ lw_gd := gd (List.mem_of_getElem? (i := 67) (by decide +kernel)) rfl
theorem w_231 : Cond.fieldLink RX5 75 "LeaningTrees$Ways" "queued" "I" ∈ lw_gd := gd (List.mem_of_getElem? (i := 70) (by decide +kernel)) rfl
theorem w_232 : Cond.fieldLink RX5 31 "LeaningTrees$Ways" "queue" "[I" ∈ lw_gd := gd (List.mem_of_getElem? (i := 68) (by decide +kernel)) rfl
theorem w_233 : Cond.fieldLink RX5 37 "LeaningTrees$Ways" "measured" "I" ∈ lw_gd := gd (List.mem_of_getElem? (i := 71) (by decide +kernel)) rfl
theorem w_234 : Cond.methodLink RX5 62 yX0_sizeOf ∈ lw_gd := gd (List.mem_of_getElem? (i := 466) (by decide +kernel)) rfl
theorem w_235 : Cond.methodLink RX5 65 yX5_learn ∈ lw_gd := gd (List.mem_of_getElem? (i := 467) (by decide +kernel)) rfl
theorem w_236 : Cond.code yX5_learn cX5_learn 5 none ∈ lw_gd := gd (List.mem_of_getElem? (i := 470) (by decide +kernel)) rfl
theorem w_237 : Cond.instanceMethod yX5_learn ∈ lw_gd := gd (List.mem_of_getElem? (i := 469) (by decide +kernel)) rfl
theorem w_238 : Cond.selects RX5 yX5_learn yX5_learn ∈ lw_gd := gp (List.mem_of_getElem? (i := 11) (by decide +kernel)) rfl
theorem mvX5_learn : MV yX5_learn cX5_learn 5 none RX5 1 := ⟨⟨w_237, w_238, w_223, w_236⟩, rfl, by decide, by decide, by decide +kernel⟩
theorem w_239 : Cond.methodLink RX5 69 yJ_fillI ∈ lw_gd := gd (List.mem_of_getElem? (i := 478) (by decide +kernel)) rfl
theorem w_240 : Cond.methodLink RX5 78 yX5_reach ∈ lw_gd := gd (List.mem_of_getElem? (i := 479) (by decide +kernel)) rfl
theorem w_241 : Cond.code yX5_reach cX5_reach 3 none ∈ lw_gd := gd (List.mem_of_getElem? (i := 482) (by decide +kernel)) rfl
theorem w_242 : Cond.instanceMethod yX5_reach ∈ lw_gd := gd (List.mem_of_getElem? (i := 481) (by decide +kernel)) rfl
theorem w_243 : Cond.selects RX5 yX5_reach yX5_reach ∈ lw_gd := gp (List.mem_of_getElem? (i := 12) (by decide +kernel)) rfl
theorem mvX5_reach : MV yX5_reach cX5_reach 3 none RX5 2 := ⟨⟨w_242, w_243, w_223, w_241⟩, rfl, by decide, by decide, by decide +kernel⟩
theorem w_244 : Cond.methodLink RX5 82 yX5_turnsFrom ∈ lw_gd := gd (List.mem_of_getElem? (i := 491) (by decide +kernel)) rfl
theorem w_245 : Cond.code yX5_turnsFrom cX5_turnsFrom 2 (some .int) ∈ lw_gd := gd (List.mem_of_getElem? (i := 486) (by decide +kernel)) rfl
theorem w_246 : Cond.instanceMethod yX5_turnsFrom ∈ lw_gd := gd (List.mem_of_getElem? (i := 484) (by decide +kernel)) rfl
theorem w_247 : Cond.selects RX5 yX5_turnsFrom yX5_turnsFrom ∈ lw_gd := gd (List.mem_of_getElem? (i := 485) (by decide +kernel)) rfl
theorem mvX5_turnsFrom : MV yX5_turnsFrom cX5_turnsFrom 2 (some .int) RX5 1 := ⟨⟨w_246, w_247, w_223, w_245⟩, rfl, by decide, by decide, by decide +kernel⟩
theorem w_248 : Cond.fieldLink RX6 30 "LeaningTrees" "ways" "LLeaningTrees$Ways;" ∈ lw_gd := gd (List.mem_of_getElem? (i := 164) (by decide +kernel)) rfl
theorem w_249 : Cond.methodLink RX6 175 yX5_measure ∈ lw_gd := gd (List.mem_of_getElem? (i := 459) (by decide +kernel)) rfl
theorem w_250 : Cond.code yX5_measure cX5_measure 6 none ∈ lw_gd := gd (List.mem_of_getElem? (i := 462) (by decide +kernel)) rfl
theorem w_251 : Cond.instanceMethod yX5_measure ∈ lw_gd := gd (List.mem_of_getElem? (i := 460) (by decide +kernel)) rfl
theorem w_252 : Cond.selects RX5 yX5_measure yX5_measure ∈ lw_gd := gd (List.mem_of_getElem? (i := 461) (by decide +kernel)) rfl
theorem mvX5_measure : MV yX5_measure cX5_measure 6 none RX5 1 := ⟨⟨w_251, w_252, w_223, w_250⟩, rfl, by decide, by decide, by decide +kernel⟩
theorem w_253 : Cond.methodLink RX6 178 yX5_turnsFrom ∈ lw_gd := gd (List.mem_of_getElem? (i := 483) (by decide +kernel)) rfl
theorem w_254 : Cond.methodLink RX6 181 yX5_firstTurn ∈ lw_gd := gd (List.mem_of_getElem? (i := 487) (by decide +kernel)) rfl
theorem w_255 : Cond.code yX5_firstTurn cX5_firstTurn 5 (some .int) ∈ lw_gd := gd (List.mem_of_getElem? (i := 490) (by decide +kernel)) rfl
theorem w_256 : Cond.instanceMethod yX5_firstTurn ∈ lw_gd := gd (List.mem_of_getElem? (i := 488) (by decide +kernel)) rfl
theorem w_257 : Cond.selects RX5 yX5_firstTurn yX5_firstTurn ∈ lw_gd := gd (List.mem_of_getElem? (i := 489) (by decide +kernel)) rfl
theorem mvX5_firstTurn : MV yX5_firstTurn cX5_firstTurn 5 (some .int) RX5 1 := ⟨⟨w_256, w_257, w_223, w_255⟩, rfl, by decide, by decide, by decide +kernel⟩
theorem w_258 : Cond.fieldLink RX5 34 "LeaningTrees$Ways" "turnsUp" "[I" ∈ lw_gd := gd (List.mem_of_getElem? (i := 69) (by decide +kernel)) rfl
theorem w_259 : Cond.methodLink RX5 94 yX5_improve ∈ lw_gd := gd (List.mem_of_getElem? (i := 500) (by decide +kernel)) rfl
theorem w_260 : Cond.code yX5_improve cX5_improve 5 none ∈ lw_gd := gd (List.mem_of_getElem? (i := 503) (by decide +kernel)) rfl
theorem w_261 : Cond.instanceMethod yX5_improve ∈ lw_gd := gd (List.mem_of_getElem? (i := 502) (by decide +kernel)) rfl
theorem w_262 : Cond.selects RX5 yX5_improve yX5_improve ∈ lw_gd := gp (List.mem_of_getElem? (i := 13) (by decide +kernel)) rfl
theorem mvX5_improve : MV yX5_improve cX5_improve 5 none RX5 3 := ⟨⟨w_261, w_262, w_223, w_260⟩, rfl, by decide, by decide, by decide +kernel⟩
theorem w_263 : Cond.methodLink RX6 184 yX5_turnsUpAlone ∈ lw_gd := gd (List.mem_of_getElem? (i := 496) (by decide +kernel)) rfl
theorem w_264 : Cond.code yX5_turnsUpAlone cX5_turnsUpAlone 7 (some .int) ∈ lw_gd := gd (List.mem_of_getElem? (i := 499) (by decide +kernel)) rfl
theorem w_265 : Cond.instanceMethod yX5_turnsUpAlone ∈ lw_gd := gd (List.mem_of_getElem? (i := 497) (by decide +kernel)) rfl
theorem w_266 : Cond.selects RX5 yX5_turnsUpAlone yX5_turnsUpAlone ∈ lw_gd := gd (List.mem_of_getElem? (i := 498) (by decide +kernel)) rfl
theorem mvX5_turnsUpAlone : MV yX5_turnsUpAlone cX5_turnsUpAlone 7 (some .int) RX5 3 := ⟨⟨w_265, w_266, w_223, w_264⟩, rfl, by decide, by decide, by decide +kernel⟩
theorem w_267 : Cond.fieldLink RX2 17 "LeaningTrees$Order" "markedCodes" "[I" ∈ lw_gd := gd (List.mem_of_getElem? (i := 48) (by decide +kernel)) rfl
theorem w_268 : Cond.fieldLink RX2 21 "LeaningTrees$Order" "marks" "[I" ∈ lw_gd := gd (List.mem_of_getElem? (i := 49) (by decide +kernel)) rfl
theorem w_269 : Cond.methodLink RX2 71 yX2_sumBelow ∈ lw_gd := gd (List.mem_of_getElem? (i := 512) (by decide +kernel)) rfl
theorem w_270 : Cond.code yX2_sumBelow cX2_sumBelow 5 (some .int) ∈ lw_gd := gd (List.mem_of_getElem? (i := 515) (by decide +kernel)) rfl
theorem w_271 : Cond.instanceMethod yX2_sumBelow ∈ lw_gd := gd (List.mem_of_getElem? (i := 514) (by decide +kernel)) rfl
theorem w_272 : Cond.selects RX2 yX2_sumBelow yX2_sumBelow ∈ lw_gd := gp (List.mem_of_getElem? (i := 14) (by decide +kernel)) rfl
theorem mvX2_sumBelow : MV yX2_sumBelow cX2_sumBelow 5 (some .int) RX2 2 := ⟨⟨w_271, w_272, w_171, w_270⟩, rfl, by decide, by decide, by decide +kernel⟩
theorem w_273 : Cond.methodLink RX6 187 yX2_markOf ∈ lw_gd := gd (List.mem_of_getElem? (i := 508) (by decide +kernel)) rfl
theorem w_274 : Cond.code yX2_markOf cX2_markOf 9 (some .int) ∈ lw_gd := gd (List.mem_of_getElem? (i := 511) (by decide +kernel)) rfl
theorem w_275 : Cond.instanceMethod yX2_markOf ∈ lw_gd := gd (List.mem_of_getElem? (i := 509) (by decide +kernel)) rfl
theorem w_276 : Cond.selects RX2 yX2_markOf yX2_markOf ∈ lw_gd := gd (List.mem_of_getElem? (i := 510) (by decide +kernel)) rfl
theorem mvX2_markOf : MV yX2_markOf cX2_markOf 9 (some .int) RX2 2 := ⟨⟨w_275, w_276, w_171, w_274⟩, rfl, by decide, by decide, by decide +kernel⟩
theorem w_277 : Cond.methodLink RX2 74 yX0_lastOf ∈ lw_gd := gd (List.mem_of_getElem? (i := 524) (by decide +kernel)) rfl
theorem w_278 : Cond.methodLink RX2 77 yX0_firstOf ∈ lw_gd := gd (List.mem_of_getElem? (i := 525) (by decide +kernel)) rfl
theorem w_279 : Cond.methodLink RX6 190 yX2_howManyPairs ∈ lw_gd := gd (List.mem_of_getElem? (i := 520) (by decide +kernel)) rfl
theorem w_280 : Cond.code yX2_howManyPairs cX2_howManyPairs 7 (some .int) ∈ lw_gd := gd (List.mem_of_getElem? (i := 523) (by decide +kernel)) rfl
theorem w_281 : Cond.instanceMethod yX2_howManyPairs ∈ lw_gd := gd (List.mem_of_getElem? (i := 521) (by decide +kernel)) rfl
theorem w_282 : Cond.selects RX2 yX2_howManyPairs yX2_howManyPairs ∈ lw_gd := gd (List.mem_of_getElem? (i := 522) (by decide +kernel)) rfl
theorem mvX2_howManyPairs : MV yX2_howManyPairs cX2_howManyPairs 7 (some .int) RX2 1 := ⟨⟨w_281, w_282, w_171, w_280⟩, rfl, by decide, by decide, by decide +kernel⟩
theorem w_283 : Cond.methodLink RX5 85 Lib.Math.max.name ∈ lw_gd := gd (List.mem_of_getElem? (i := 534) (by decide +kernel)) rfl
theorem w_284 : Cond.methodLink RX5 90 yX5_farthest ∈ lw_gd := gd (List.mem_of_getElem? (i := 539) (by decide +kernel)) rfl
theorem w_285 : Cond.code yX5_farthest cX5_farthest 3 (some .int) ∈ lw_gd := gd (List.mem_of_getElem? (i := 533) (by decide +kernel)) rfl
theorem w_286 : Cond.instanceMethod yX5_farthest ∈ lw_gd := gd (List.mem_of_getElem? (i := 531) (by decide +kernel)) rfl
theorem w_287 : Cond.selects RX5 yX5_farthest yX5_farthest ∈ lw_gd := gd (List.mem_of_getElem? (i := 532) (by decide +kernel)) rfl
theorem mvX5_farthest : MV yX5_farthest cX5_farthest 3 (some .int) RX5 0 := ⟨⟨w_286, w_287, w_223, w_285⟩, rfl, by decide, by decide, by decide +kernel⟩
theorem w_288 : Cond.methodLink RX6 193 yX5_farthest ∈ lw_gd := gd (List.mem_of_getElem? (i := 530) (by decide +kernel)) rfl
theorem w_289 : Cond.methodLink RX6 196 yX5_howManyFarthest ∈ lw_gd := gd (List.mem_of_getElem? (i := 535) (by decide +kernel)) rfl
theorem w_290 : Cond.code yX5_howManyFarthest cX5_howManyFarthest 4 (some .int) ∈ lw_gd := gd (List.mem_of_getElem? (i := 538) (by decide +kernel)) rfl
theorem w_291 : Cond.instanceMethod yX5_howManyFarthest ∈ lw_gd := gd (List.mem_of_getElem? (i := 536) (by decide +kernel)) rfl
theorem w_292 : Cond.selects RX5 yX5_howManyFarthest yX5_howManyFarthest ∈ lw_gd := gd (List.mem_of_getElem? (i := 537) (by decide +kernel)) rfl
theorem mvX5_howManyFarthest : MV yX5_howManyFarthest cX5_howManyFarthest 4 (some .int) RX5 0 := ⟨⟨w_291, w_292, w_223, w_290⟩, rfl, by decide, by decide, by decide +kernel⟩
theorem w_293 : Cond.methodLink RX6 199 yX5_leastFarthest ∈ lw_gd := gd (List.mem_of_getElem? (i := 540) (by decide +kernel)) rfl
theorem w_294 : Cond.code yX5_leastFarthest cX5_leastFarthest 3 (some .int) ∈ lw_gd := gd (List.mem_of_getElem? (i := 543) (by decide +kernel)) rfl
theorem w_295 : Cond.instanceMethod yX5_leastFarthest ∈ lw_gd := gd (List.mem_of_getElem? (i := 541) (by decide +kernel)) rfl
theorem w_296 : Cond.selects RX5 yX5_leastFarthest yX5_leastFarthest ∈ lw_gd := gd (List.mem_of_getElem? (i := 542) (by decide +kernel)) rfl
theorem mvX5_leastFarthest : MV yX5_leastFarthest cX5_leastFarthest 3 (some .int) RX5 0 := ⟨⟨w_295, w_296, w_223, w_294⟩, rfl, by decide, by decide, by decide +kernel⟩
theorem w_297 : Cond.methodLink RX0 73 yX0_withRightChild ∈ lw_gd := gd (List.mem_of_getElem? (i := 556) (by decide +kernel)) rfl
theorem w_298 : Cond.methodLink RX6 202 yX0_howManyWith ∈ lw_gd := gd (List.mem_of_getElem? (i := 552) (by decide +kernel)) rfl
theorem w_299 : Cond.code yX0_howManyWith cX0_howManyWith 5 (some .int) ∈ lw_gd := gd (List.mem_of_getElem? (i := 555) (by decide +kernel)) rfl
theorem w_300 : Cond.instanceMethod yX0_howManyWith ∈ lw_gd := gd (List.mem_of_getElem? (i := 553) (by decide +kernel)) rfl
theorem w_301 : Cond.selects RX0 yX0_howManyWith yX0_howManyWith ∈ lw_gd := gd (List.mem_of_getElem? (i := 554) (by decide +kernel)) rfl
theorem mvX0_howManyWith : MV yX0_howManyWith cX0_howManyWith 5 (some .int) RX0 2 := ⟨⟨w_300, w_301, w_5, w_299⟩, rfl, by decide, by decide, by decide +kernel⟩
theorem w_302 : Cond.methodLink RX6 205 yX0_leastWith ∈ lw_gd := gd (List.mem_of_getElem? (i := 557) (by decide +kernel)) rfl
theorem w_303 : Cond.code yX0_leastWith cX0_leastWith 4 (some .int) ∈ lw_gd := gd (List.mem_of_getElem? (i := 560) (by decide +kernel)) rfl
theorem w_304 : Cond.instanceMethod yX0_leastWith ∈ lw_gd := gd (List.mem_of_getElem? (i := 558) (by decide +kernel)) rfl
theorem w_305 : Cond.selects RX0 yX0_leastWith yX0_leastWith ∈ lw_gd := gd (List.mem_of_getElem? (i := 559) (by decide +kernel)) rfl
theorem mvX0_leastWith : MV yX0_leastWith cX0_leastWith 4 (some .int) RX0 2 := ⟨⟨w_304, w_305, w_5, w_303⟩, rfl, by decide, by decide, by decide +kernel⟩
theorem w_306 : Cond.methodLink RX6 208 yX0_greatestWith ∈ lw_gd := gd (List.mem_of_getElem? (i := 561) (by decide +kernel)) rfl
theorem w_307 : Cond.code yX0_greatestWith cX0_greatestWith 4 (some .int) ∈ lw_gd := gd (List.mem_of_getElem? (i := 564) (by decide +kernel)) rfl
theorem w_308 : Cond.instanceMethod yX0_greatestWith ∈ lw_gd := gd (List.mem_of_getElem? (i := 562) (by decide +kernel)) rfl
theorem w_309 : Cond.selects RX0 yX0_greatestWith yX0_greatestWith ∈ lw_gd := gd (List.mem_of_getElem? (i := 563) (by decide +kernel)) rfl
theorem mvX0_greatestWith : MV yX0_greatestWith cX0_greatestWith 4 (some .int) RX0 2 := ⟨⟨w_308, w_309, w_5, w_307⟩, rfl, by decide, by decide, by decide +kernel⟩
theorem w_310 : Cond.methodLink RX0 76 yX0_sideBySide ∈ lw_gd := gd (List.mem_of_getElem? (i := 593) (by decide +kernel)) rfl
theorem w_311 : Cond.code yX0_sideBySide cX0_sideBySide 4 (some .int) ∈ lw_gd := gd (List.mem_of_getElem? (i := 596) (by decide +kernel)) rfl
theorem w_312 : Cond.instanceMethod yX0_sideBySide ∈ lw_gd := gd (List.mem_of_getElem? (i := 595) (by decide +kernel)) rfl
theorem w_313 : Cond.selects RX0 yX0_sideBySide yX0_sideBySide ∈ lw_gd := gp (List.mem_of_getElem? (i := 16) (by decide +kernel)) rfl
theorem mvX0_sideBySide : MV yX0_sideBySide cX0_sideBySide 4 (some .int) RX0 3 := ⟨⟨w_312, w_313, w_5, w_311⟩, rfl, by decide, by decide, by decide +kernel⟩
theorem w_314 : Cond.methodLink RX6 217 yX6_lackOrTooMany ∈ lw_gd := gd (List.mem_of_getElem? (i := 585) (by decide +kernel)) rfl
theorem w_315 : Cond.code yX6_lackOrTooMany cX6_lackOrTooMany 3 (some .int) ∈ lw_gd := gd (List.mem_of_getElem? (i := 588) (by decide +kernel)) rfl
theorem w_316 : Cond.instanceMethod yX6_lackOrTooMany ∈ lw_gd := gd (List.mem_of_getElem? (i := 587) (by decide +kernel)) rfl
theorem w_317 : Cond.selects RX6 yX6_lackOrTooMany yX6_lackOrTooMany ∈ lw_gd := gp (List.mem_of_getElem? (i := 15) (by decide +kernel)) rfl
theorem mvX6_lackOrTooMany : MV yX6_lackOrTooMany cX6_lackOrTooMany 3 (some .int) RX6 1 := ⟨⟨w_316, w_317, w_16, w_315⟩, rfl, by decide, by decide, by decide +kernel⟩
theorem w_318 : Cond.methodLink RX6 220 yX0_setOver ∈ lw_gd := gd (List.mem_of_getElem? (i := 589) (by decide +kernel)) rfl
theorem w_319 : Cond.code yX0_setOver cX0_setOver 3 (some .int) ∈ lw_gd := gd (List.mem_of_getElem? (i := 592) (by decide +kernel)) rfl
theorem w_320 : Cond.instanceMethod yX0_setOver ∈ lw_gd := gd (List.mem_of_getElem? (i := 590) (by decide +kernel)) rfl
theorem w_321 : Cond.selects RX0 yX0_setOver yX0_setOver ∈ lw_gd := gd (List.mem_of_getElem? (i := 591) (by decide +kernel)) rfl
theorem mvX0_setOver : MV yX0_setOver cX0_setOver 3 (some .int) RX0 2 := ⟨⟨w_320, w_321, w_5, w_319⟩, rfl, by decide, by decide, by decide +kernel⟩
theorem w_322 : Cond.methodLink RX6 223 yX0_setUnder ∈ lw_gd := gd (List.mem_of_getElem? (i := 601) (by decide +kernel)) rfl
theorem w_323 : Cond.code yX0_setUnder cX0_setUnder 6 (some .int) ∈ lw_gd := gd (List.mem_of_getElem? (i := 604) (by decide +kernel)) rfl
theorem w_324 : Cond.instanceMethod yX0_setUnder ∈ lw_gd := gd (List.mem_of_getElem? (i := 602) (by decide +kernel)) rfl
theorem w_325 : Cond.selects RX0 yX0_setUnder yX0_setUnder ∈ lw_gd := gd (List.mem_of_getElem? (i := 603) (by decide +kernel)) rfl
theorem mvX0_setUnder : MV yX0_setUnder cX0_setUnder 6 (some .int) RX0 2 := ⟨⟨w_324, w_325, w_5, w_323⟩, rfl, by decide, by decide, by decide +kernel⟩
theorem w_326 : Cond.methodLink RX1 26 yX1_isList ∈ lw_gd := gd (List.mem_of_getElem? (i := 620) (by decide +kernel)) rfl
theorem w_327 : Cond.code yX1_isList cX1_isList 1 (some .boolean) ∈ lw_gd := gd (List.mem_of_getElem? (i := 615) (by decide +kernel)) rfl
theorem w_328 : Cond.initialized RX1 ∈ lw_gd := gd (List.mem_of_getElem? (i := 6) (by decide +kernel)) rfl
theorem w_329 : Cond.static yX1_isList ∈ lw_gd := gd (List.mem_of_getElem? (i := 614) (by decide +kernel)) rfl
theorem msX1_isList : MS yX1_isList cX1_isList 1 (some .boolean) 1 := ⟨⟨w_329, w_328, w_327⟩, by decide, by decide, by decide +kernel⟩
theorem w_330 : Cond.fieldLink RX1 13 "LeaningTrees$Lists" "longs" "[[J" ∈ lw_gd := gd (List.mem_of_getElem? (i := 116) (by decide +kernel)) rfl
theorem w_331 : Cond.methodLink RX1 34 yJ_fillL ∈ lw_gd := gd (List.mem_of_getElem? (i := 621) (by decide +kernel)) rfl
theorem w_332 : Cond.fieldLink RX1 16 "LeaningTrees$Lists" "lengths" "[I" ∈ lw_gd := gd (List.mem_of_getElem? (i := 117) (by decide +kernel)) rfl
theorem w_333 : Cond.methodLink RX6 226 yX1_isList ∈ lw_gd := gd (List.mem_of_getElem? (i := 613) (by decide +kernel)) rfl
theorem w_334 : Cond.fieldLink RX6 44 "LeaningTrees" "lists" "LLeaningTrees$Lists;" ∈ lw_gd := gd (List.mem_of_getElem? (i := 166) (by decide +kernel)) rfl
theorem w_335 : Cond.methodLink RX6 229 yX1_renew ∈ lw_gd := gd (List.mem_of_getElem? (i := 616) (by decide +kernel)) rfl
theorem w_336 : Cond.code yX1_renew cX1_renew 3 none ∈ lw_gd := gd (List.mem_of_getElem? (i := 619) (by decide +kernel)) rfl
theorem w_337 : Cond.instanceMethod yX1_renew ∈ lw_gd := gd (List.mem_of_getElem? (i := 617) (by decide +kernel)) rfl
theorem w_338 : Cond.selects RX1 yX1_renew yX1_renew ∈ lw_gd := gd (List.mem_of_getElem? (i := 618) (by decide +kernel)) rfl
theorem mvX1_renew : MV yX1_renew cX1_renew 3 none RX1 2 := ⟨⟨w_337, w_338, w_328, w_336⟩, rfl, by decide, by decide, by decide +kernel⟩
theorem w_339 : Cond.methodLink RX1 30 yX1_lengthOf ∈ lw_gd := gd (List.mem_of_getElem? (i := 632) (by decide +kernel)) rfl
theorem w_340 : Cond.code yX1_lengthOf cX1_lengthOf 2 (some .int) ∈ lw_gd := gd (List.mem_of_getElem? (i := 635) (by decide +kernel)) rfl
theorem w_341 : Cond.instanceMethod yX1_lengthOf ∈ lw_gd := gd (List.mem_of_getElem? (i := 633) (by decide +kernel)) rfl
theorem w_342 : Cond.selects RX1 yX1_lengthOf yX1_lengthOf ∈ lw_gd := gd (List.mem_of_getElem? (i := 634) (by decide +kernel)) rfl
theorem mvX1_lengthOf : MV yX1_lengthOf cX1_lengthOf 2 (some .int) RX1 1 := ⟨⟨w_341, w_342, w_328, w_340⟩, rfl, by decide, by decide, by decide +kernel⟩
theorem w_343 : Cond.methodLink RX1 37 yX1_isPlace ∈ lw_gd := gd (List.mem_of_getElem? (i := 644) (by decide +kernel)) rfl
theorem w_344 : Cond.code yX1_isPlace cX1_isPlace 3 (some .boolean) ∈ lw_gd := gd (List.mem_of_getElem? (i := 639) (by decide +kernel)) rfl
theorem w_345 : Cond.instanceMethod yX1_isPlace ∈ lw_gd := gd (List.mem_of_getElem? (i := 637) (by decide +kernel)) rfl
theorem w_346 : Cond.selects RX1 yX1_isPlace yX1_isPlace ∈ lw_gd := gd (List.mem_of_getElem? (i := 638) (by decide +kernel)) rfl
theorem mvX1_isPlace : MV yX1_isPlace cX1_isPlace 3 (some .boolean) RX1 2 := ⟨⟨w_345, w_346, w_328, w_344⟩, rfl, by decide, by decide, by decide +kernel⟩
theorem w_347 : Cond.methodLink RX6 233 yX1_isThere ∈ lw_gd := gd (List.mem_of_getElem? (i := 628) (by decide +kernel)) rfl
theorem w_348 : Cond.code yX1_isThere cX1_isThere 2 (some .boolean) ∈ lw_gd := gd (List.mem_of_getElem? (i := 631) (by decide +kernel)) rfl
theorem w_349 : Cond.instanceMethod yX1_isThere ∈ lw_gd := gd (List.mem_of_getElem? (i := 629) (by decide +kernel)) rfl
theorem w_350 : Cond.selects RX1 yX1_isThere yX1_isThere ∈ lw_gd := gd (List.mem_of_getElem? (i := 630) (by decide +kernel)) rfl
theorem mvX1_isThere : MV yX1_isThere cX1_isThere 2 (some .boolean) RX1 1 := ⟨⟨w_349, w_350, w_328, w_348⟩, rfl, by decide, by decide, by decide +kernel⟩
theorem w_351 : Cond.methodLink RX6 236 yX1_isPlace ∈ lw_gd := gd (List.mem_of_getElem? (i := 636) (by decide +kernel)) rfl
theorem w_352 : Cond.methodLink RX6 239 yX1_store ∈ lw_gd := gd (List.mem_of_getElem? (i := 640) (by decide +kernel)) rfl
theorem w_353 : Cond.code yX1_store cX1_store 5 none ∈ lw_gd := gd (List.mem_of_getElem? (i := 643) (by decide +kernel)) rfl
theorem w_354 : Cond.instanceMethod yX1_store ∈ lw_gd := gd (List.mem_of_getElem? (i := 641) (by decide +kernel)) rfl
theorem w_355 : Cond.selects RX1 yX1_store yX1_store ∈ lw_gd := gd (List.mem_of_getElem? (i := 642) (by decide +kernel)) rfl
theorem mvX1_store : MV yX1_store cX1_store 5 none RX1 3 := ⟨⟨w_354, w_355, w_328, w_353⟩, rfl, by decide, by decide, by decide +kernel⟩
theorem w_356 : Cond.constantLong RX1 41 (-9223372036854775808 : Int64) ∈ lw_gd := gd (List.mem_of_getElem? (i := 653) (by decide +kernel)) rfl
theorem w_357 : Cond.constantLong RX6 247 (-9223372036854775808 : Int64) ∈ lw_gd := gd (List.mem_of_getElem? (i := 654) (by decide +kernel)) rfl
theorem w_358 : Cond.methodLink RX6 243 yX1_valueAt ∈ lw_gd := gd (List.mem_of_getElem? (i := 649) (by decide +kernel)) rfl
theorem w_359 : Cond.code yX1_valueAt cX1_valueAt 3 (some .long) ∈ lw_gd := gd (List.mem_of_getElem? (i := 652) (by decide +kernel)) rfl
theorem w_360 : Cond.instanceMethod yX1_valueAt ∈ lw_gd := gd (List.mem_of_getElem? (i := 650) (by decide +kernel)) rfl
theorem w_361 : Cond.selects RX1 yX1_valueAt yX1_valueAt ∈ lw_gd := gd (List.mem_of_getElem? (i := 651) (by decide +kernel)) rfl
theorem mvX1_valueAt : MV yX1_valueAt cX1_valueAt 3 (some .long) RX1 2 := ⟨⟨w_360, w_361, w_328, w_359⟩, rfl, by decide, by decide, by decide +kernel⟩
theorem w_362 : Cond.constantLong RX0 68 (-1 : Int64) ∈ lw_gd := gd (List.mem_of_getElem? (i := 665) (by decide +kernel)) rfl
theorem w_363 : Cond.methodLink RX0 70 yX0_turnedBack ∈ lw_gd := gd (List.mem_of_getElem? (i := 666) (by decide +kernel)) rfl
theorem w_364 : Cond.methodLink RX0 65 yX0_turnedUp ∈ lw_gd := gd (List.mem_of_getElem? (i := 664) (by decide +kernel)) rfl
theorem w_365 : Cond.methodLink RX6 249 yX1_lengthOf ∈ lw_gd := gd (List.mem_of_getElem? (i := 659) (by decide +kernel)) rfl
theorem w_366 : Cond.methodLink RX6 252 yX0_turnedAsTold ∈ lw_gd := gd (List.mem_of_getElem? (i := 660) (by decide +kernel)) rfl
theorem w_367 : Cond.code yX0_turnedAsTold cX0_turnedAsTold 5 (some .int) ∈ lw_gd := gd (List.mem_of_getElem? (i := 663) (by decide +kernel)) rfl
theorem w_368 : Cond.instanceMethod yX0_turnedAsTold ∈ lw_gd := gd (List.mem_of_getElem? (i := 661) (by decide +kernel)) rfl
theorem w_369 : Cond.selects RX0 yX0_turnedAsTold yX0_turnedAsTold ∈ lw_gd := gd (List.mem_of_getElem? (i := 662) (by decide +kernel)) rfl
theorem mvX0_turnedAsTold : MV yX0_turnedAsTold cX0_turnedAsTold 5 (some .int) RX0 2 := ⟨⟨w_368, w_369, w_5, w_367⟩, rfl, by decide, by decide, by decide +kernel⟩
theorem w_370 : Cond.fieldLink RX4 24 "LeaningTrees$Tape" "length" "I" ∈ lw_gd := gd (List.mem_of_getElem? (i := 131) (by decide +kernel)) rfl
theorem w_371 : Cond.fieldLink RX4 11 "LeaningTrees$Tape" "bytes" "[I" ∈ lw_gd := gd (List.mem_of_getElem? (i := 130) (by decide +kernel)) rfl
theorem w_372 : Cond.fieldLink RX6 51 "LeaningTrees" "tape" "LLeaningTrees$Tape;" ∈ lw_gd := gd (List.mem_of_getElem? (i := 167) (by decide +kernel)) rfl
theorem w_373 : Cond.methodLink RX6 256 yX4_append ∈ lw_gd := gd (List.mem_of_getElem? (i := 675) (by decide +kernel)) rfl
theorem w_374 : Cond.code yX4_append cX4_append 2 (some .boolean) ∈ lw_gd := gd (List.mem_of_getElem? (i := 678) (by decide +kernel)) rfl
theorem w_375 : Cond.initialized RX4 ∈ lw_gd := gd (List.mem_of_getElem? (i := 8) (by decide +kernel)) rfl
theorem w_376 : Cond.instanceMethod yX4_append ∈ lw_gd := gd (List.mem_of_getElem? (i := 676) (by decide +kernel)) rfl
theorem w_377 : Cond.selects RX4 yX4_append yX4_append ∈ lw_gd := gd (List.mem_of_getElem? (i := 677) (by decide +kernel)) rfl
theorem mvX4_append : MV yX4_append cX4_append 2 (some .boolean) RX4 1 := ⟨⟨w_376, w_377, w_375, w_374⟩, rfl, by decide, by decide, by decide +kernel⟩
theorem w_378 : Cond.methodLink RX6 259 yX4_length ∈ lw_gd := gd (List.mem_of_getElem? (i := 679) (by decide +kernel)) rfl
theorem w_379 : Cond.code yX4_length cX4_length 1 (some .int) ∈ lw_gd := gd (List.mem_of_getElem? (i := 682) (by decide +kernel)) rfl
theorem w_380 : Cond.instanceMethod yX4_length ∈ lw_gd := gd (List.mem_of_getElem? (i := 680) (by decide +kernel)) rfl
theorem w_381 : Cond.selects RX4 yX4_length yX4_length ∈ lw_gd := gd (List.mem_of_getElem? (i := 681) (by decide +kernel)) rfl
theorem mvX4_length : MV yX4_length cX4_length 1 (some .int) RX4 0 := ⟨⟨w_380, w_381, w_375, w_379⟩, rfl, by decide, by decide, by decide +kernel⟩
theorem w_382 : Cond.methodLink RX6 262 yX4_clear ∈ lw_gd := gd (List.mem_of_getElem? (i := 687) (by decide +kernel)) rfl
theorem w_383 : Cond.code yX4_clear cX4_clear 1 none ∈ lw_gd := gd (List.mem_of_getElem? (i := 690) (by decide +kernel)) rfl
theorem w_384 : Cond.instanceMethod yX4_clear ∈ lw_gd := gd (List.mem_of_getElem? (i := 688) (by decide +kernel)) rfl
theorem w_385 : Cond.selects RX4 yX4_clear yX4_clear ∈ lw_gd := gd (List.mem_of_getElem? (i := 689) (by decide +kernel)) rfl
theorem mvX4_clear : MV yX4_clear cX4_clear 1 none RX4 0 := ⟨⟨w_384, w_385, w_375, w_383⟩, rfl, by decide, by decide, by decide +kernel⟩
theorem w_386 : Cond.fieldLink RX4 28 "LeaningTrees$Tape" "open" "I" ∈ lw_gd := gd (List.mem_of_getElem? (i := 135) (by decide +kernel)) rfl
theorem w_387 : Cond.fieldLink RX4 15 "LeaningTrees$Tape" "awaited" "[I" ∈ lw_gd := gd (List.mem_of_getElem? (i := 132) (by decide +kernel)) rfl
theorem w_388 : Cond.fieldLink RX4 18 "LeaningTrees$Tape" "openNodes" "[I" ∈ lw_gd := gd (List.mem_of_getElem? (i := 133) (by decide +kernel)) rfl
theorem w_389 : Cond.fieldLink RX4 34 "LeaningTrees$Tape" "numbered" "I" ∈ lw_gd := gd (List.mem_of_getElem? (i := 137) (by decide +kernel)) rfl
theorem w_390 : Cond.methodLink RX4 60 yX4_awaitedNow ∈ lw_gd := gd (List.mem_of_getElem? (i := 707) (by decide +kernel)) rfl
theorem w_391 : Cond.code yX4_awaitedNow cX4_awaitedNow 1 (some .int) ∈ lw_gd := gd (List.mem_of_getElem? (i := 710) (by decide +kernel)) rfl
theorem w_392 : Cond.instanceMethod yX4_awaitedNow ∈ lw_gd := gd (List.mem_of_getElem? (i := 709) (by decide +kernel)) rfl
theorem w_393 : Cond.selects RX4 yX4_awaitedNow yX4_awaitedNow ∈ lw_gd := gp (List.mem_of_getElem? (i := 19) (by decide +kernel)) rfl
theorem mvX4_awaitedNow : MV yX4_awaitedNow cX4_awaitedNow 1 (some .int) RX4 0 := ⟨⟨w_392, w_393, w_375, w_391⟩, rfl, by decide, by decide, by decide +kernel⟩
theorem w_394 : Cond.methodLink RX4 64 yX4_endSubtree ∈ lw_gd := gd (List.mem_of_getElem? (i := 715) (by decide +kernel)) rfl
theorem w_395 : Cond.code yX4_endSubtree cX4_endSubtree 2 none ∈ lw_gd := gd (List.mem_of_getElem? (i := 718) (by decide +kernel)) rfl
theorem w_396 : Cond.instanceMethod yX4_endSubtree ∈ lw_gd := gd (List.mem_of_getElem? (i := 717) (by decide +kernel)) rfl
theorem w_397 : Cond.selects RX4 yX4_endSubtree yX4_endSubtree ∈ lw_gd := gp (List.mem_of_getElem? (i := 21) (by decide +kernel)) rfl
theorem mvX4_endSubtree : MV yX4_endSubtree cX4_endSubtree 2 none RX4 0 := ⟨⟨w_396, w_397, w_375, w_395⟩, rfl, by decide, by decide, by decide +kernel⟩
theorem w_398 : Cond.fieldLink RX4 21 "LeaningTrees$Tape" "rightSizes" "[I" ∈ lw_gd := gd (List.mem_of_getElem? (i := 134) (by decide +kernel)) rfl
theorem w_399 : Cond.fieldLink RX4 31 "LeaningTrees$Tape" "opened" "I" ∈ lw_gd := gd (List.mem_of_getElem? (i := 136) (by decide +kernel)) rfl
theorem w_400 : Cond.methodLink RX4 51 yX4_opensNode ∈ lw_gd := gd (List.mem_of_getElem? (i := 703) (by decide +kernel)) rfl
theorem w_401 : Cond.code yX4_opensNode cX4_opensNode 2 (some .boolean) ∈ lw_gd := gd (List.mem_of_getElem? (i := 706) (by decide +kernel)) rfl
theorem w_402 : Cond.instanceMethod yX4_opensNode ∈ lw_gd := gd (List.mem_of_getElem? (i := 705) (by decide +kernel)) rfl
theorem w_403 : Cond.selects RX4 yX4_opensNode yX4_opensNode ∈ lw_gd := gp (List.mem_of_getElem? (i := 18) (by decide +kernel)) rfl
theorem mvX4_opensNode : MV yX4_opensNode cX4_opensNode 2 (some .boolean) RX4 0 := ⟨⟨w_402, w_403, w_375, w_401⟩, rfl, by decide, by decide, by decide +kernel⟩
theorem w_404 : Cond.methodLink RX4 57 yX4_closesNode ∈ lw_gd := gd (List.mem_of_getElem? (i := 719) (by decide +kernel)) rfl
theorem w_405 : Cond.code yX4_closesNode cX4_closesNode 2 (some .boolean) ∈ lw_gd := gd (List.mem_of_getElem? (i := 722) (by decide +kernel)) rfl
theorem w_406 : Cond.instanceMethod yX4_closesNode ∈ lw_gd := gd (List.mem_of_getElem? (i := 721) (by decide +kernel)) rfl
theorem w_407 : Cond.selects RX4 yX4_closesNode yX4_closesNode ∈ lw_gd := gp (List.mem_of_getElem? (i := 22) (by decide +kernel)) rfl
theorem mvX4_closesNode : MV yX4_closesNode cX4_closesNode 2 (some .boolean) RX4 0 := ⟨⟨w_406, w_407, w_375, w_405⟩, rfl, by decide, by decide, by decide +kernel⟩
theorem w_408 : Cond.methodLink RX4 54 yX4_staysNothing ∈ lw_gd := gd (List.mem_of_getElem? (i := 711) (by decide +kernel)) rfl
theorem w_409 : Cond.code yX4_staysNothing cX4_staysNothing 1 (some .boolean) ∈ lw_gd := gd (List.mem_of_getElem? (i := 714) (by decide +kernel)) rfl
theorem w_410 : Cond.instanceMethod yX4_staysNothing ∈ lw_gd := gd (List.mem_of_getElem? (i := 713) (by decide +kernel)) rfl
theorem w_411 : Cond.selects RX4 yX4_staysNothing yX4_staysNothing ∈ lw_gd := gp (List.mem_of_getElem? (i := 20) (by decide +kernel)) rfl
theorem mvX4_staysNothing : MV yX4_staysNothing cX4_staysNothing 1 (some .boolean) RX4 0 := ⟨⟨w_410, w_411, w_375, w_409⟩, rfl, by decide, by decide, by decide +kernel⟩
theorem w_412 : Cond.methodLink RX4 37 yX4_accepts ∈ lw_gd := gd (List.mem_of_getElem? (i := 699) (by decide +kernel)) rfl
theorem w_413 : Cond.code yX4_accepts cX4_accepts 2 (some .boolean) ∈ lw_gd := gd (List.mem_of_getElem? (i := 702) (by decide +kernel)) rfl
theorem w_414 : Cond.instanceMethod yX4_accepts ∈ lw_gd := gd (List.mem_of_getElem? (i := 701) (by decide +kernel)) rfl
theorem w_415 : Cond.selects RX4 yX4_accepts yX4_accepts ∈ lw_gd := gp (List.mem_of_getElem? (i := 17) (by decide +kernel)) rfl
theorem mvX4_accepts : MV yX4_accepts cX4_accepts 2 (some .boolean) RX4 1 := ⟨⟨w_414, w_415, w_375, w_413⟩, rfl, by decide, by decide, by decide +kernel⟩
theorem w_416 : Cond.methodLink RX4 41 yX4_isWhole ∈ lw_gd := gd (List.mem_of_getElem? (i := 723) (by decide +kernel)) rfl
theorem w_417 : Cond.code yX4_isWhole cX4_isWhole 1 (some .boolean) ∈ lw_gd := gd (List.mem_of_getElem? (i := 726) (by decide +kernel)) rfl
theorem w_418 : Cond.instanceMethod yX4_isWhole ∈ lw_gd := gd (List.mem_of_getElem? (i := 725) (by decide +kernel)) rfl
theorem w_419 : Cond.selects RX4 yX4_isWhole yX4_isWhole ∈ lw_gd := gp (List.mem_of_getElem? (i := 23) (by decide +kernel)) rfl
theorem mvX4_isWhole : MV yX4_isWhole cX4_isWhole 1 (some .boolean) RX4 0 := ⟨⟨w_418, w_419, w_375, w_417⟩, rfl, by decide, by decide, by decide +kernel⟩
theorem w_420 : Cond.methodLink RX4 45 yX0_digitAt ∈ lw_gd := gd (List.mem_of_getElem? (i := 735) (by decide +kernel)) rfl
theorem w_421 : Cond.methodLink RX6 263 yX4_parse ∈ lw_gd := gd (List.mem_of_getElem? (i := 695) (by decide +kernel)) rfl
theorem w_422 : Cond.code yX4_parse cX4_parse 2 (some .int) ∈ lw_gd := gd (List.mem_of_getElem? (i := 698) (by decide +kernel)) rfl
theorem w_423 : Cond.instanceMethod yX4_parse ∈ lw_gd := gd (List.mem_of_getElem? (i := 696) (by decide +kernel)) rfl
theorem w_424 : Cond.selects RX4 yX4_parse yX4_parse ∈ lw_gd := gd (List.mem_of_getElem? (i := 697) (by decide +kernel)) rfl
theorem mvX4_parse : MV yX4_parse cX4_parse 2 (some .int) RX4 0 := ⟨⟨w_423, w_424, w_375, w_422⟩, rfl, by decide, by decide, by decide +kernel⟩
theorem w_425 : Cond.methodLink RX6 266 yX4_parsedNodes ∈ lw_gd := gd (List.mem_of_getElem? (i := 727) (by decide +kernel)) rfl
theorem w_426 : Cond.code yX4_parsedNodes cX4_parsedNodes 1 (some .int) ∈ lw_gd := gd (List.mem_of_getElem? (i := 730) (by decide +kernel)) rfl
theorem w_427 : Cond.instanceMethod yX4_parsedNodes ∈ lw_gd := gd (List.mem_of_getElem? (i := 728) (by decide +kernel)) rfl
theorem w_428 : Cond.selects RX4 yX4_parsedNodes yX4_parsedNodes ∈ lw_gd := gd (List.mem_of_getElem? (i := 729) (by decide +kernel)) rfl
theorem mvX4_parsedNodes : MV yX4_parsedNodes cX4_parsedNodes 1 (some .int) RX4 0 := ⟨⟨w_427, w_428, w_375, w_426⟩, rfl, by decide, by decide, by decide +kernel⟩
theorem w_429 : Cond.methodLink RX6 269 yX4_parsedCode ∈ lw_gd := gd (List.mem_of_getElem? (i := 731) (by decide +kernel)) rfl
theorem w_430 : Cond.code yX4_parsedCode cX4_parsedCode 3 (some .int) ∈ lw_gd := gd (List.mem_of_getElem? (i := 734) (by decide +kernel)) rfl
theorem w_431 : Cond.instanceMethod yX4_parsedCode ∈ lw_gd := gd (List.mem_of_getElem? (i := 732) (by decide +kernel)) rfl
theorem w_432 : Cond.selects RX4 yX4_parsedCode yX4_parsedCode ∈ lw_gd := gd (List.mem_of_getElem? (i := 733) (by decide +kernel)) rfl
theorem mvX4_parsedCode : MV yX4_parsedCode cX4_parsedCode 3 (some .int) RX4 0 := ⟨⟨w_431, w_432, w_375, w_430⟩, rfl, by decide, by decide, by decide +kernel⟩
theorem w_433 : Cond.methodLink RX6 272 yX0_find ∈ lw_gd := gd (List.mem_of_getElem? (i := 736) (by decide +kernel)) rfl
theorem w_434 : Cond.methodLink RX0 79 yX0_opening ∈ lw_gd := gd (List.mem_of_getElem? (i := 749) (by decide +kernel)) rfl
theorem w_435 : Cond.code yX0_opening cX0_opening 5 (some .int) ∈ lw_gd := gd (List.mem_of_getElem? (i := 752) (by decide +kernel)) rfl
theorem w_436 : Cond.instanceMethod yX0_opening ∈ lw_gd := gd (List.mem_of_getElem? (i := 751) (by decide +kernel)) rfl
theorem w_437 : Cond.selects RX0 yX0_opening yX0_opening ∈ lw_gd := gp (List.mem_of_getElem? (i := 24) (by decide +kernel)) rfl
theorem mvX0_opening : MV yX0_opening cX0_opening 5 (some .int) RX0 2 := ⟨⟨w_436, w_437, w_5, w_435⟩, rfl, by decide, by decide, by decide +kernel⟩
theorem w_438 : Cond.methodLink RX0 82 yX0_closing ∈ lw_gd := gd (List.mem_of_getElem? (i := 753) (by decide +kernel)) rfl
theorem w_439 : Cond.code yX0_closing cX0_closing 5 (some .int) ∈ lw_gd := gd (List.mem_of_getElem? (i := 756) (by decide +kernel)) rfl
theorem w_440 : Cond.instanceMethod yX0_closing ∈ lw_gd := gd (List.mem_of_getElem? (i := 755) (by decide +kernel)) rfl
theorem w_441 : Cond.selects RX0 yX0_closing yX0_closing ∈ lw_gd := gp (List.mem_of_getElem? (i := 25) (by decide +kernel)) rfl
theorem mvX0_closing : MV yX0_closing cX0_closing 5 (some .int) RX0 2 := ⟨⟨w_440, w_441, w_5, w_439⟩, rfl, by decide, by decide, by decide +kernel⟩
theorem w_442 : Cond.methodLink RX6 278 yX0_textByte ∈ lw_gd := gd (List.mem_of_getElem? (i := 745) (by decide +kernel)) rfl
theorem w_443 : Cond.code yX0_textByte cX0_textByte 5 (some .int) ∈ lw_gd := gd (List.mem_of_getElem? (i := 748) (by decide +kernel)) rfl
theorem w_444 : Cond.instanceMethod yX0_textByte ∈ lw_gd := gd (List.mem_of_getElem? (i := 746) (by decide +kernel)) rfl
theorem w_445 : Cond.selects RX0 yX0_textByte yX0_textByte ∈ lw_gd := gd (List.mem_of_getElem? (i := 747) (by decide +kernel)) rfl
theorem mvX0_textByte : MV yX0_textByte cX0_textByte 5 (some .int) RX0 2 := ⟨⟨w_444, w_445, w_5, w_443⟩, rfl, by decide, by decide, by decide +kernel⟩
theorem w_446 : Cond.methodLink RX6 275 yX0_textLength ∈ lw_gd := gd (List.mem_of_getElem? (i := 741) (by decide +kernel)) rfl
theorem w_447 : Cond.code yX0_textLength cX0_textLength 2 (some .int) ∈ lw_gd := gd (List.mem_of_getElem? (i := 744) (by decide +kernel)) rfl
theorem w_448 : Cond.instanceMethod yX0_textLength ∈ lw_gd := gd (List.mem_of_getElem? (i := 742) (by decide +kernel)) rfl
theorem w_449 : Cond.selects RX0 yX0_textLength yX0_textLength ∈ lw_gd := gd (List.mem_of_getElem? (i := 743) (by decide +kernel)) rfl
theorem mvX0_textLength : MV yX0_textLength cX0_textLength 2 (some .int) RX0 1 := ⟨⟨w_448, w_449, w_5, w_447⟩, rfl, by decide, by decide, by decide +kernel⟩
theorem w_450 : Cond.fieldLink RX6 62 "LeaningTrees" "imageTree" "I" ∈ lw_gd := gd (List.mem_of_getElem? (i := 170) (by decide +kernel)) rfl
theorem w_451 : Cond.fieldLink RX6 59 "LeaningTrees" "imageShelves" "[I" ∈ lw_gd := gd (List.mem_of_getElem? (i := 169) (by decide +kernel)) rfl
theorem w_452 : Cond.methodLink RX6 281 arraycopyName ∈ lw_gd := gd (List.mem_of_getElem? (i := 761) (by decide +kernel)) rfl
theorem w_453 : Cond.methodLink RX6 287 yX6_shelvesInUse ∈ lw_gd := gd (List.mem_of_getElem? (i := 770) (by decide +kernel)) rfl
theorem w_454 : Cond.code yX6_shelvesInUse cX6_shelvesInUse 6 (some .int) ∈ lw_gd := gd (List.mem_of_getElem? (i := 773) (by decide +kernel)) rfl
theorem w_455 : Cond.instanceMethod yX6_shelvesInUse ∈ lw_gd := gd (List.mem_of_getElem? (i := 772) (by decide +kernel)) rfl
theorem w_456 : Cond.selects RX6 yX6_shelvesInUse yX6_shelvesInUse ∈ lw_gd := gp (List.mem_of_getElem? (i := 26) (by decide +kernel)) rfl
theorem mvX6_shelvesInUse : MV yX6_shelvesInUse cX6_shelvesInUse 6 (some .int) RX6 0 := ⟨⟨w_455, w_456, w_16, w_454⟩, rfl, by decide, by decide, by decide +kernel⟩
theorem w_457 : Cond.methodLink RX6 290 yX1_howManyThere ∈ lw_gd := gd (List.mem_of_getElem? (i := 774) (by decide +kernel)) rfl
theorem w_458 : Cond.code yX1_howManyThere cX1_howManyThere 6 (some .int) ∈ lw_gd := gd (List.mem_of_getElem? (i := 777) (by decide +kernel)) rfl
theorem w_459 : Cond.instanceMethod yX1_howManyThere ∈ lw_gd := gd (List.mem_of_getElem? (i := 775) (by decide +kernel)) rfl
theorem w_460 : Cond.selects RX1 yX1_howManyThere yX1_howManyThere ∈ lw_gd := gd (List.mem_of_getElem? (i := 776) (by decide +kernel)) rfl
theorem mvX1_howManyThere : MV yX1_howManyThere cX1_howManyThere 6 (some .int) RX1 0 := ⟨⟨w_459, w_460, w_328, w_458⟩, rfl, by decide, by decide, by decide +kernel⟩
theorem w_461 : Cond.methodLink RX7 77 yX7_ten ∈ lw_gd := gd (List.mem_of_getElem? (i := 905) (by decide +kernel)) rfl
theorem w_462 : Cond.code yX7_ten cX7_ten 3 (some .int) ∈ lw_gd := gd (List.mem_of_getElem? (i := 907) (by decide +kernel)) rfl
theorem w_463 : Cond.initialized RX7 ∈ lw_gd := gd (List.mem_of_getElem? (i := 9) (by decide +kernel)) rfl
theorem w_464 : Cond.static yX7_ten ∈ lw_gd := gd (List.mem_of_getElem? (i := 906) (by decide +kernel)) rfl
theorem msX7_ten : MS yX7_ten cX7_ten 3 (some .int) 1 := ⟨⟨w_464, w_463, w_462⟩, by decide, by decide, by decide +kernel⟩
theorem w_465 : Cond.methodLink RX7 81 yX7_at ∈ lw_gd := gd (List.mem_of_getElem? (i := 908) (by decide +kernel)) rfl
theorem w_466 : Cond.code yX7_at cX7_at 3 (some .int) ∈ lw_gd := gd (List.mem_of_getElem? (i := 910) (by decide +kernel)) rfl
theorem w_467 : Cond.static yX7_at ∈ lw_gd := gd (List.mem_of_getElem? (i := 909) (by decide +kernel)) rfl
theorem msX7_at : MS yX7_at cX7_at 3 (some .int) 3 := ⟨⟨w_467, w_463, w_466⟩, by decide, by decide, by decide +kernel⟩
theorem w_468 : Cond.methodLink RX7 85 yX7_in ∈ lw_gd := gd (List.mem_of_getElem? (i := 895) (by decide +kernel)) rfl
theorem w_469 : Cond.code yX7_in cX7_in 6 (some .boolean) ∈ lw_gd := gd (List.mem_of_getElem? (i := 897) (by decide +kernel)) rfl
theorem w_470 : Cond.static yX7_in ∈ lw_gd := gd (List.mem_of_getElem? (i := 896) (by decide +kernel)) rfl
theorem msX7_in : MS yX7_in cX7_in 6 (some .boolean) 3 := ⟨⟨w_470, w_463, w_469⟩, by decide, by decide, by decide +kernel⟩
theorem w_471 : Cond.fieldLink RX7 89 "LeaningTreesModel" "tableOf" "I" ∈ lw_gd := gd (List.mem_of_getElem? (i := 803) (by decide +kernel)) rfl
theorem w_472 : Cond.fieldLink RX7 92 "LeaningTreesModel" "many" "I" ∈ lw_gd := gd (List.mem_of_getElem? (i := 802) (by decide +kernel)) rfl
theorem w_473 : Cond.methodLink RX7 95 yX7_isTree ∈ lw_gd := gd (List.mem_of_getElem? (i := 902) (by decide +kernel)) rfl
theorem w_474 : Cond.code yX7_isTree cX7_isTree 5 (some .boolean) ∈ lw_gd := gd (List.mem_of_getElem? (i := 904) (by decide +kernel)) rfl
theorem w_475 : Cond.static yX7_isTree ∈ lw_gd := gd (List.mem_of_getElem? (i := 903) (by decide +kernel)) rfl
theorem msX7_isTree : MS yX7_isTree cX7_isTree 5 (some .boolean) 2 := ⟨⟨w_475, w_463, w_474⟩, by decide, by decide, by decide +kernel⟩
theorem w_476 : Cond.fieldLink RX7 44 "LeaningTreesModel" "all" "[I" ∈ lw_gd := gd (List.mem_of_getElem? (i := 801) (by decide +kernel)) rfl
theorem w_477 : Cond.methodLink RX7 99 yX7_table ∈ lw_gd := gd (List.mem_of_getElem? (i := 923) (by decide +kernel)) rfl
theorem w_478 : Cond.code yX7_table cX7_table 6 none ∈ lw_gd := gd (List.mem_of_getElem? (i := 926) (by decide +kernel)) rfl
theorem w_479 : Cond.instanceMethod yX7_table ∈ lw_gd := gd (List.mem_of_getElem? (i := 925) (by decide +kernel)) rfl
theorem w_480 : Cond.selects RX7 yX7_table yX7_table ∈ lw_gd := gp (List.mem_of_getElem? (i := 29) (by decide +kernel)) rfl
theorem mvX7_table : MV yX7_table cX7_table 6 none RX7 1 := ⟨⟨w_479, w_480, w_463, w_478⟩, rfl, by decide, by decide, by decide +kernel⟩
theorem w_481 : Cond.fieldLink RX7 47 "LeaningTreesModel" "parent" "[I" ∈ lw_gd := gd (List.mem_of_getElem? (i := 804) (by decide +kernel)) rfl
theorem w_482 : Cond.fieldLink RX7 59 "LeaningTreesModel" "above" "[I" ∈ lw_gd := gd (List.mem_of_getElem? (i := 808) (by decide +kernel)) rfl
theorem w_483 : Cond.fieldLink RX7 56 "LeaningTreesModel" "leftSize" "[I" ∈ lw_gd := gd (List.mem_of_getElem? (i := 807) (by decide +kernel)) rfl
theorem w_484 : Cond.fieldLink RX7 50 "LeaningTreesModel" "left" "[I" ∈ lw_gd := gd (List.mem_of_getElem? (i := 805) (by decide +kernel)) rfl
theorem w_485 : Cond.methodLink RX7 103 yX7_reads ∈ lw_gd := gd (List.mem_of_getElem? (i := 940) (by decide +kernel)) rfl
theorem w_486 : Cond.code yX7_reads cX7_reads 8 (some .int) ∈ lw_gd := gd (List.mem_of_getElem? (i := 943) (by decide +kernel)) rfl
theorem w_487 : Cond.instanceMethod yX7_reads ∈ lw_gd := gd (List.mem_of_getElem? (i := 942) (by decide +kernel)) rfl
theorem w_488 : Cond.selects RX7 yX7_reads yX7_reads ∈ lw_gd := gp (List.mem_of_getElem? (i := 32) (by decide +kernel)) rfl
theorem mvX7_reads : MV yX7_reads cX7_reads 8 (some .int) RX7 6 := ⟨⟨w_487, w_488, w_463, w_486⟩, rfl, by decide, by decide, by decide +kernel⟩
theorem w_489 : Cond.fieldLink RX7 53 "LeaningTreesModel" "right" "[I" ∈ lw_gd := gd (List.mem_of_getElem? (i := 806) (by decide +kernel)) rfl
theorem w_490 : Cond.fieldLink RX7 107 "LeaningTreesModel" "read" "I" ∈ lw_gd := gd (List.mem_of_getElem? (i := 809) (by decide +kernel)) rfl
theorem w_491 : Cond.methodLink RX7 110 yX7_looks ∈ lw_gd := gd (List.mem_of_getElem? (i := 936) (by decide +kernel)) rfl
theorem w_492 : Cond.code yX7_looks cX7_looks 3 none ∈ lw_gd := gd (List.mem_of_getElem? (i := 939) (by decide +kernel)) rfl
theorem w_493 : Cond.instanceMethod yX7_looks ∈ lw_gd := gd (List.mem_of_getElem? (i := 938) (by decide +kernel)) rfl
theorem w_494 : Cond.selects RX7 yX7_looks yX7_looks ∈ lw_gd := gp (List.mem_of_getElem? (i := 31) (by decide +kernel)) rfl
theorem mvX7_looks : MV yX7_looks cX7_looks 3 none RX7 2 := ⟨⟨w_493, w_494, w_463, w_492⟩, rfl, by decide, by decide, by decide +kernel⟩
theorem w_495 : Cond.methodLink RX7 114 yX7_with ∈ lw_gd := gd (List.mem_of_getElem? (i := 965) (by decide +kernel)) rfl
theorem w_496 : Cond.code yX7_with cX7_with 4 (some .int) ∈ lw_gd := gd (List.mem_of_getElem? (i := 967) (by decide +kernel)) rfl
theorem w_497 : Cond.static yX7_with ∈ lw_gd := gd (List.mem_of_getElem? (i := 966) (by decide +kernel)) rfl
theorem msX7_with : MS yX7_with cX7_with 4 (some .int) 4 := ⟨⟨w_497, w_463, w_496⟩, by decide, by decide, by decide +kernel⟩
theorem w_498 : Cond.fieldLink RX7 9 "LeaningTreesModel" "nodes" "I" ∈ lw_gd := gd (List.mem_of_getElem? (i := 784) (by decide +kernel)) rfl
theorem w_499 : Cond.fieldLink RX7 121 "LeaningTreesModel" "steps" "I" ∈ lw_gd := gd (List.mem_of_getElem? (i := 790) (by decide +kernel)) rfl
theorem w_500 : Cond.fieldLink RX7 22 "LeaningTreesModel" "stepNodes" "[I" ∈ lw_gd := gd (List.mem_of_getElem? (i := 788) (by decide +kernel)) rfl
theorem w_501 : Cond.fieldLink RX7 25 "LeaningTreesModel" "stepTree" "[I" ∈ lw_gd := gd (List.mem_of_getElem? (i := 789) (by decide +kernel)) rfl
theorem w_502 : Cond.fieldLink RX7 118 "LeaningTreesModel" "tree" "I" ∈ lw_gd := gd (List.mem_of_getElem? (i := 785) (by decide +kernel)) rfl
theorem w_503 : Cond.constantLong RX7 124 (7 : Int64) ∈ lw_gd := gd (List.mem_of_getElem? (i := 894) (by decide +kernel)) rfl
theorem w_504 : Cond.methodLink RX7 139 yX7_numberOf ∈ lw_gd := gd (List.mem_of_getElem? (i := 919) (by decide +kernel)) rfl
theorem w_505 : Cond.code yX7_numberOf cX7_numberOf 4 (some .int) ∈ lw_gd := gd (List.mem_of_getElem? (i := 922) (by decide +kernel)) rfl
theorem w_506 : Cond.instanceMethod yX7_numberOf ∈ lw_gd := gd (List.mem_of_getElem? (i := 921) (by decide +kernel)) rfl
theorem w_507 : Cond.selects RX7 yX7_numberOf yX7_numberOf ∈ lw_gd := gp (List.mem_of_getElem? (i := 28) (by decide +kernel)) rfl
theorem mvX7_numberOf : MV yX7_numberOf cX7_numberOf 4 (some .int) RX7 2 := ⟨⟨w_506, w_507, w_463, w_505⟩, rfl, by decide, by decide, by decide +kernel⟩
theorem w_508 : Cond.methodLink RX7 126 yX7_becomes ∈ lw_gd := gd (List.mem_of_getElem? (i := 911) (by decide +kernel)) rfl
theorem w_509 : Cond.code yX7_becomes cX7_becomes 4 none ∈ lw_gd := gd (List.mem_of_getElem? (i := 914) (by decide +kernel)) rfl
theorem w_510 : Cond.instanceMethod yX7_becomes ∈ lw_gd := gd (List.mem_of_getElem? (i := 913) (by decide +kernel)) rfl
theorem w_511 : Cond.selects RX7 yX7_becomes yX7_becomes ∈ lw_gd := gp (List.mem_of_getElem? (i := 27) (by decide +kernel)) rfl
theorem mvX7_becomes : MV yX7_becomes cX7_becomes 4 none RX7 2 := ⟨⟨w_510, w_511, w_463, w_509⟩, rfl, by decide, by decide, by decide +kernel⟩
theorem w_512 : Cond.methodLink RX7 129 yX7_which ∈ lw_gd := gd (List.mem_of_getElem? (i := 915) (by decide +kernel)) rfl
theorem w_513 : Cond.code yX7_which cX7_which 1 (some .int) ∈ lw_gd := gd (List.mem_of_getElem? (i := 918) (by decide +kernel)) rfl
theorem w_514 : Cond.instanceMethod yX7_which ∈ lw_gd := gd (List.mem_of_getElem? (i := 916) (by decide +kernel)) rfl
theorem w_515 : Cond.selects RX7 yX7_which yX7_which ∈ lw_gd := gd (List.mem_of_getElem? (i := 917) (by decide +kernel)) rfl
theorem mvX7_which : MV yX7_which cX7_which 1 (some .int) RX7 0 := ⟨⟨w_514, w_515, w_463, w_513⟩, rfl, by decide, by decide, by decide +kernel⟩
theorem w_516 : Cond.methodLink RX7 133 yX7_isNode ∈ lw_gd := gd (List.mem_of_getElem? (i := 931) (by decide +kernel)) rfl
theorem w_517 : Cond.code yX7_isNode cX7_isNode 2 (some .boolean) ∈ lw_gd := gd (List.mem_of_getElem? (i := 934) (by decide +kernel)) rfl
theorem w_518 : Cond.instanceMethod yX7_isNode ∈ lw_gd := gd (List.mem_of_getElem? (i := 933) (by decide +kernel)) rfl
theorem w_519 : Cond.selects RX7 yX7_isNode yX7_isNode ∈ lw_gd := gp (List.mem_of_getElem? (i := 30) (by decide +kernel)) rfl
theorem mvX7_isNode : MV yX7_isNode cX7_isNode 2 (some .boolean) RX7 1 := ⟨⟨w_518, w_519, w_463, w_517⟩, rfl, by decide, by decide, by decide +kernel⟩
theorem w_520 : Cond.constantLong RX7 137 (5 : Int64) ∈ lw_gd := gd (List.mem_of_getElem? (i := 935) (by decide +kernel)) rfl
theorem w_521 : Cond.methodLink RX7 143 yX7_up ∈ lw_gd := gd (List.mem_of_getElem? (i := 961) (by decide +kernel)) rfl
theorem w_522 : Cond.code yX7_up cX7_up 5 (some .int) ∈ lw_gd := gd (List.mem_of_getElem? (i := 964) (by decide +kernel)) rfl
theorem w_523 : Cond.instanceMethod yX7_up ∈ lw_gd := gd (List.mem_of_getElem? (i := 963) (by decide +kernel)) rfl
theorem w_524 : Cond.selects RX7 yX7_up yX7_up ∈ lw_gd := gp (List.mem_of_getElem? (i := 33) (by decide +kernel)) rfl
theorem mvX7_up : MV yX7_up cX7_up 5 (some .int) RX7 3 := ⟨⟨w_523, w_524, w_463, w_522⟩, rfl, by decide, by decide, by decide +kernel⟩
theorem w_525 : Cond.methodLink RX7 146 yX7_down ∈ lw_gd := gd (List.mem_of_getElem? (i := 972) (by decide +kernel)) rfl
theorem w_526 : Cond.code yX7_down cX7_down 4 (some .int) ∈ lw_gd := gd (List.mem_of_getElem? (i := 975) (by decide +kernel)) rfl
theorem w_527 : Cond.instanceMethod yX7_down ∈ lw_gd := gd (List.mem_of_getElem? (i := 974) (by decide +kernel)) rfl
theorem w_528 : Cond.selects RX7 yX7_down yX7_down ∈ lw_gd := gp (List.mem_of_getElem? (i := 34) (by decide +kernel)) rfl
theorem mvX7_down : MV yX7_down cX7_down 4 (some .int) RX7 3 := ⟨⟨w_527, w_528, w_463, w_526⟩, rfl, by decide, by decide, by decide +kernel⟩
theorem w_529 : Cond.constantLong RX7 149 (3 : Int64) ∈ lw_gd := gd (List.mem_of_getElem? (i := 980) (by decide +kernel)) rfl
theorem w_530 : Cond.methodLink RX7 151 yJ0_bitCount ∈ lw_gd := gd (List.mem_of_getElem? (i := 981) (by decide +kernel)) rfl
theorem w_531 : Cond.methodLink RX7 156 yX7_mirrored ∈ lw_gd := gd (List.mem_of_getElem? (i := 986) (by decide +kernel)) rfl
theorem w_532 : Cond.code yX7_mirrored cX7_mirrored 5 (some .int) ∈ lw_gd := gd (List.mem_of_getElem? (i := 989) (by decide +kernel)) rfl
theorem w_533 : Cond.instanceMethod yX7_mirrored ∈ lw_gd := gd (List.mem_of_getElem? (i := 988) (by decide +kernel)) rfl
theorem w_534 : Cond.selects RX7 yX7_mirrored yX7_mirrored ∈ lw_gd := gp (List.mem_of_getElem? (i := 35) (by decide +kernel)) rfl
theorem mvX7_mirrored : MV yX7_mirrored cX7_mirrored 5 (some .int) RX7 2 := ⟨⟨w_533, w_534, w_463, w_532⟩, rfl, by decide, by decide, by decide +kernel⟩
theorem w_535 : Cond.fieldLink RX7 15 "LeaningTreesModel" "shelfNodes" "[I" ∈ lw_gd := gd (List.mem_of_getElem? (i := 786) (by decide +kernel)) rfl
theorem w_536 : Cond.methodLink RX7 159 yX7_isShelf ∈ lw_gd := gd (List.mem_of_getElem? (i := 998) (by decide +kernel)) rfl
theorem w_537 : Cond.code yX7_isShelf cX7_isShelf 1 (some .boolean) ∈ lw_gd := gd (List.mem_of_getElem? (i := 1000) (by decide +kernel)) rfl
theorem w_538 : Cond.static yX7_isShelf ∈ lw_gd := gd (List.mem_of_getElem? (i := 999) (by decide +kernel)) rfl
theorem msX7_isShelf : MS yX7_isShelf cX7_isShelf 1 (some .boolean) 1 := ⟨⟨w_538, w_463, w_537⟩, by decide, by decide, by decide +kernel⟩
theorem w_539 : Cond.methodLink RX7 162 yX7_barOf ∈ lw_gd := gd (List.mem_of_getElem? (i := 1001) (by decide +kernel)) rfl
theorem w_540 : Cond.code yX7_barOf cX7_barOf 2 (some .int) ∈ lw_gd := gd (List.mem_of_getElem? (i := 1004) (by decide +kernel)) rfl
theorem w_541 : Cond.instanceMethod yX7_barOf ∈ lw_gd := gd (List.mem_of_getElem? (i := 1003) (by decide +kernel)) rfl
theorem w_542 : Cond.selects RX7 yX7_barOf yX7_barOf ∈ lw_gd := gp (List.mem_of_getElem? (i := 36) (by decide +kernel)) rfl
theorem mvX7_barOf : MV yX7_barOf cX7_barOf 2 (some .int) RX7 1 := ⟨⟨w_541, w_542, w_463, w_540⟩, rfl, by decide, by decide, by decide +kernel⟩
theorem w_543 : Cond.fieldLink RX7 19 "LeaningTreesModel" "shelfTree" "[I" ∈ lw_gd := gd (List.mem_of_getElem? (i := 787) (by decide +kernel)) rfl
theorem w_544 : Cond.methodLink RX7 165 yX7_isBelow ∈ lw_gd := gd (List.mem_of_getElem? (i := 1005) (by decide +kernel)) rfl
theorem w_545 : Cond.code yX7_isBelow cX7_isBelow 4 (some .boolean) ∈ lw_gd := gd (List.mem_of_getElem? (i := 1007) (by decide +kernel)) rfl
theorem w_546 : Cond.static yX7_isBelow ∈ lw_gd := gd (List.mem_of_getElem? (i := 1006) (by decide +kernel)) rfl
theorem msX7_isBelow : MS yX7_isBelow cX7_isBelow 4 (some .boolean) 3 := ⟨⟨w_546, w_463, w_545⟩, by decide, by decide, by decide +kernel⟩
theorem w_547 : Cond.methodLink RX7 169 yX7_bound ∈ lw_gd := gd (List.mem_of_getElem? (i := 1012) (by decide +kernel)) rfl
theorem w_548 : Cond.code yX7_bound cX7_bound 8 (some .int) ∈ lw_gd := gd (List.mem_of_getElem? (i := 1015) (by decide +kernel)) rfl
theorem w_549 : Cond.instanceMethod yX7_bound ∈ lw_gd := gd (List.mem_of_getElem? (i := 1014) (by decide +kernel)) rfl
theorem w_550 : Cond.selects RX7 yX7_bound yX7_bound ∈ lw_gd := gp (List.mem_of_getElem? (i := 37) (by decide +kernel)) rfl
theorem mvX7_bound : MV yX7_bound cX7_bound 8 (some .int) RX7 3 := ⟨⟨w_549, w_550, w_463, w_548⟩, rfl, by decide, by decide, by decide +kernel⟩
theorem w_551 : Cond.methodLink RX7 173 yX7_isBetween ∈ lw_gd := gd (List.mem_of_getElem? (i := 1024) (by decide +kernel)) rfl
theorem w_552 : Cond.code yX7_isBetween cX7_isBetween 4 (some .boolean) ∈ lw_gd := gd (List.mem_of_getElem? (i := 1027) (by decide +kernel)) rfl
theorem w_553 : Cond.instanceMethod yX7_isBetween ∈ lw_gd := gd (List.mem_of_getElem? (i := 1026) (by decide +kernel)) rfl
theorem w_554 : Cond.selects RX7 yX7_isBetween yX7_isBetween ∈ lw_gd := gp (List.mem_of_getElem? (i := 38) (by decide +kernel)) rfl
theorem mvX7_isBetween : MV yX7_isBetween cX7_isBetween 4 (some .boolean) RX7 3 := ⟨⟨w_553, w_554, w_463, w_552⟩, rfl, by decide, by decide, by decide +kernel⟩
theorem w_555 : Cond.fieldLink RX7 62 "LeaningTreesModel" "dist" "[I" ∈ lw_gd := gd (List.mem_of_getElem? (i := 810) (by decide +kernel)) rfl
theorem w_556 : Cond.fieldLink RX7 65 "LeaningTreesModel" "queue" "[I" ∈ lw_gd := gd (List.mem_of_getElem? (i := 811) (by decide +kernel)) rfl
theorem w_557 : Cond.methodLink RX7 176 yX7_measure ∈ lw_gd := gd (List.mem_of_getElem? (i := 1032) (by decide +kernel)) rfl
theorem w_558 : Cond.code yX7_measure cX7_measure 11 none ∈ lw_gd := gd (List.mem_of_getElem? (i := 1035) (by decide +kernel)) rfl
theorem w_559 : Cond.instanceMethod yX7_measure ∈ lw_gd := gd (List.mem_of_getElem? (i := 1034) (by decide +kernel)) rfl
theorem w_560 : Cond.selects RX7 yX7_measure yX7_measure ∈ lw_gd := gp (List.mem_of_getElem? (i := 39) (by decide +kernel)) rfl
theorem mvX7_measure : MV yX7_measure cX7_measure 11 none RX7 2 := ⟨⟨w_559, w_560, w_463, w_558⟩, rfl, by decide, by decide, by decide +kernel⟩
theorem w_561 : Cond.methodLink RX7 180 yX7_firstTurn ∈ lw_gd := gd (List.mem_of_getElem? (i := 1036) (by decide +kernel)) rfl
theorem w_562 : Cond.code yX7_firstTurn cX7_firstTurn 6 (some .int) ∈ lw_gd := gd (List.mem_of_getElem? (i := 1039) (by decide +kernel)) rfl
theorem w_563 : Cond.instanceMethod yX7_firstTurn ∈ lw_gd := gd (List.mem_of_getElem? (i := 1038) (by decide +kernel)) rfl
theorem w_564 : Cond.selects RX7 yX7_firstTurn yX7_firstTurn ∈ lw_gd := gp (List.mem_of_getElem? (i := 40) (by decide +kernel)) rfl
theorem mvX7_firstTurn : MV yX7_firstTurn cX7_firstTurn 6 (some .int) RX7 1 := ⟨⟨w_563, w_564, w_463, w_562⟩, rfl, by decide, by decide, by decide +kernel⟩
theorem w_565 : Cond.methodLink RX7 183 Lib.Math.max.name ∈ lw_gd := gd (List.mem_of_getElem? (i := 1048) (by decide +kernel)) rfl
theorem w_566 : Cond.methodLink RX7 188 yX7_longest ∈ lw_gd := gd (List.mem_of_getElem? (i := 1044) (by decide +kernel)) rfl
theorem w_567 : Cond.code yX7_longest cX7_longest 6 (some .int) ∈ lw_gd := gd (List.mem_of_getElem? (i := 1047) (by decide +kernel)) rfl
theorem w_568 : Cond.instanceMethod yX7_longest ∈ lw_gd := gd (List.mem_of_getElem? (i := 1046) (by decide +kernel)) rfl
theorem w_569 : Cond.selects RX7 yX7_longest yX7_longest ∈ lw_gd := gp (List.mem_of_getElem? (i := 41) (by decide +kernel)) rfl
theorem mvX7_longest : MV yX7_longest cX7_longest 6 (some .int) RX7 1 := ⟨⟨w_568, w_569, w_463, w_567⟩, rfl, by decide, by decide, by decide +kernel⟩
theorem w_570 : Cond.fieldLink RX7 68 "LeaningTreesModel" "marks" "[I" ∈ lw_gd := gd (List.mem_of_getElem? (i := 812) (by decide +kernel)) rfl
theorem w_571 : Cond.constantLong RX7 191 (6 : Int64) ∈ lw_gd := gd (List.mem_of_getElem? (i := 1057) (by decide +kernel)) rfl
theorem w_572 : Cond.constantLong RX7 193 (2 : Int64) ∈ lw_gd := gd (List.mem_of_getElem? (i := 1062) (by decide +kernel)) rfl
theorem w_573 : Cond.methodLink RX7 195 yX7_canopyOf ∈ lw_gd := gd (List.mem_of_getElem? (i := 1067) (by decide +kernel)) rfl
theorem w_574 : Cond.code yX7_canopyOf cX7_canopyOf 4 (some .int) ∈ lw_gd := gd (List.mem_of_getElem? (i := 1069) (by decide +kernel)) rfl
theorem w_575 : Cond.static yX7_canopyOf ∈ lw_gd := gd (List.mem_of_getElem? (i := 1068) (by decide +kernel)) rfl
theorem msX7_canopyOf : MS yX7_canopyOf cX7_canopyOf 4 (some .int) 2 := ⟨⟨w_575, w_463, w_574⟩, by decide, by decide, by decide +kernel⟩
theorem w_576 : Cond.methodLink RX7 198 yX7_canopy ∈ lw_gd := gd (List.mem_of_getElem? (i := 1078) (by decide +kernel)) rfl
theorem w_577 : Cond.code yX7_canopy cX7_canopy 1 (some .int) ∈ lw_gd := gd (List.mem_of_getElem? (i := 1066) (by decide +kernel)) rfl
theorem w_578 : Cond.instanceMethod yX7_canopy ∈ lw_gd := gd (List.mem_of_getElem? (i := 1064) (by decide +kernel)) rfl
theorem w_579 : Cond.selects RX7 yX7_canopy yX7_canopy ∈ lw_gd := gd (List.mem_of_getElem? (i := 1065) (by decide +kernel)) rfl
theorem mvX7_canopy : MV yX7_canopy cX7_canopy 1 (some .int) RX7 0 := ⟨⟨w_578, w_579, w_463, w_577⟩, rfl, by decide, by decide, by decide +kernel⟩
theorem w_580 : Cond.fieldLink RX7 32 "LeaningTreesModel" "listSize" "[I" ∈ lw_gd := gd (List.mem_of_getElem? (i := 792) (by decide +kernel)) rfl
theorem w_581 : Cond.fieldLink RX7 28 "LeaningTreesModel" "lists" "[J" ∈ lw_gd := gd (List.mem_of_getElem? (i := 791) (by decide +kernel)) rfl
theorem w_582 : Cond.methodLink RX7 201 yX7_isList ∈ lw_gd := gd (List.mem_of_getElem? (i := 1107) (by decide +kernel)) rfl
theorem w_583 : Cond.code yX7_isList cX7_isList 1 (some .boolean) ∈ lw_gd := gd (List.mem_of_getElem? (i := 1109) (by decide +kernel)) rfl
theorem w_584 : Cond.static yX7_isList ∈ lw_gd := gd (List.mem_of_getElem? (i := 1108) (by decide +kernel)) rfl
theorem msX7_isList : MS yX7_isList cX7_isList 1 (some .boolean) 1 := ⟨⟨w_584, w_463, w_583⟩, by decide, by decide, by decide +kernel⟩
theorem w_585 : Cond.methodLink RX7 204 yX7_makes ∈ lw_gd := gd (List.mem_of_getElem? (i := 1110) (by decide +kernel)) rfl
theorem w_586 : Cond.code yX7_makes cX7_makes 4 none ∈ lw_gd := gd (List.mem_of_getElem? (i := 1113) (by decide +kernel)) rfl
theorem w_587 : Cond.instanceMethod yX7_makes ∈ lw_gd := gd (List.mem_of_getElem? (i := 1112) (by decide +kernel)) rfl
theorem w_588 : Cond.selects RX7 yX7_makes yX7_makes ∈ lw_gd := gp (List.mem_of_getElem? (i := 42) (by decide +kernel)) rfl
theorem mvX7_makes : MV yX7_makes cX7_makes 4 none RX7 2 := ⟨⟨w_587, w_588, w_463, w_586⟩, rfl, by decide, by decide, by decide +kernel⟩
theorem w_589 : Cond.constantLong RX7 207 (-9223372036854775808 : Int64) ∈ lw_gd := gd (List.mem_of_getElem? (i := 1122) (by decide +kernel)) rfl
theorem w_590 : Cond.constantLong RX7 209 (-1 : Int64) ∈ lw_gd := gd (List.mem_of_getElem? (i := 1127) (by decide +kernel)) rfl
theorem w_591 : Cond.constantLong RX7 211 (32 : Int64) ∈ lw_gd := gd (List.mem_of_getElem? (i := 1136) (by decide +kernel)) rfl
theorem w_592 : Cond.constantLong RX7 213 (126 : Int64) ∈ lw_gd := gd (List.mem_of_getElem? (i := 1137) (by decide +kernel)) rfl
theorem w_593 : Cond.fieldLink RX7 215 "LeaningTreesModel" "taped" "I" ∈ lw_gd := gd (List.mem_of_getElem? (i := 794) (by decide +kernel)) rfl
theorem w_594 : Cond.fieldLink RX7 35 "LeaningTreesModel" "tape" "[I" ∈ lw_gd := gd (List.mem_of_getElem? (i := 793) (by decide +kernel)) rfl
theorem w_595 : Cond.fieldLink RX7 218 "LeaningTreesModel" "at" "I" ∈ lw_gd := gd (List.mem_of_getElem? (i := 795) (by decide +kernel)) rfl
theorem w_596 : Cond.methodLink RX7 220 yX7_sign ∈ lw_gd := gd (List.mem_of_getElem? (i := 1150) (by decide +kernel)) rfl
theorem w_597 : Cond.code yX7_sign cX7_sign 1 (some .int) ∈ lw_gd := gd (List.mem_of_getElem? (i := 1153) (by decide +kernel)) rfl
theorem w_598 : Cond.instanceMethod yX7_sign ∈ lw_gd := gd (List.mem_of_getElem? (i := 1152) (by decide +kernel)) rfl
theorem w_599 : Cond.selects RX7 yX7_sign yX7_sign ∈ lw_gd := gp (List.mem_of_getElem? (i := 44) (by decide +kernel)) rfl
theorem mvX7_sign : MV yX7_sign cX7_sign 1 (some .int) RX7 0 := ⟨⟨w_598, w_599, w_463, w_597⟩, rfl, by decide, by decide, by decide +kernel⟩
theorem w_600 : Cond.fieldLink RX7 226 "LeaningTreesModel" "open" "I" ∈ lw_gd := gd (List.mem_of_getElem? (i := 817) (by decide +kernel)) rfl
theorem w_601 : Cond.methodLink RX7 229 yX7_sees ∈ lw_gd := gd (List.mem_of_getElem? (i := 1146) (by decide +kernel)) rfl
theorem w_602 : Cond.code yX7_sees cX7_sees 4 (some .boolean) ∈ lw_gd := gd (List.mem_of_getElem? (i := 1149) (by decide +kernel)) rfl
theorem w_603 : Cond.instanceMethod yX7_sees ∈ lw_gd := gd (List.mem_of_getElem? (i := 1148) (by decide +kernel)) rfl
theorem w_604 : Cond.selects RX7 yX7_sees yX7_sees ∈ lw_gd := gp (List.mem_of_getElem? (i := 43) (by decide +kernel)) rfl
theorem mvX7_sees : MV yX7_sees cX7_sees 4 (some .boolean) RX7 1 := ⟨⟨w_603, w_604, w_463, w_602⟩, rfl, by decide, by decide, by decide +kernel⟩
theorem w_605 : Cond.fieldLink RX7 223 "LeaningTreesModel" "part" "I" ∈ lw_gd := gd (List.mem_of_getElem? (i := 818) (by decide +kernel)) rfl
theorem w_606 : Cond.fieldLink RX7 233 "LeaningTreesModel" "seen" "I" ∈ lw_gd := gd (List.mem_of_getElem? (i := 815) (by decide +kernel)) rfl
theorem w_607 : Cond.fieldLink RX7 74 "LeaningTreesModel" "seenRow" "[I" ∈ lw_gd := gd (List.mem_of_getElem? (i := 816) (by decide +kernel)) rfl
theorem w_608 : Cond.fieldLink RX7 71 "LeaningTreesModel" "text" "[I" ∈ lw_gd := gd (List.mem_of_getElem? (i := 813) (by decide +kernel)) rfl
theorem w_609 : Cond.fieldLink RX7 236 "LeaningTreesModel" "written" "I" ∈ lw_gd := gd (List.mem_of_getElem? (i := 814) (by decide +kernel)) rfl
theorem w_610 : Cond.methodLink RX7 239 yX7_write ∈ lw_gd := gd (List.mem_of_getElem? (i := 1158) (by decide +kernel)) rfl
theorem w_611 : Cond.code yX7_write cX7_write 2 none ∈ lw_gd := gd (List.mem_of_getElem? (i := 1161) (by decide +kernel)) rfl
theorem w_612 : Cond.instanceMethod yX7_write ∈ lw_gd := gd (List.mem_of_getElem? (i := 1160) (by decide +kernel)) rfl
theorem w_613 : Cond.selects RX7 yX7_write yX7_write ∈ lw_gd := gp (List.mem_of_getElem? (i := 45) (by decide +kernel)) rfl
theorem mvX7_write : MV yX7_write cX7_write 2 none RX7 1 := ⟨⟨w_612, w_613, w_463, w_611⟩, rfl, by decide, by decide, by decide +kernel⟩
theorem w_614 : Cond.fieldLink RX7 242 "LeaningTreesModel" "imaged" "Z" ∈ lw_gd := gd (List.mem_of_getElem? (i := 796) (by decide +kernel)) rfl
theorem w_615 : Cond.fieldLink RX7 246 "LeaningTreesModel" "imageNodes" "I" ∈ lw_gd := gd (List.mem_of_getElem? (i := 797) (by decide +kernel)) rfl
theorem w_616 : Cond.fieldLink RX7 249 "LeaningTreesModel" "imageTree" "I" ∈ lw_gd := gd (List.mem_of_getElem? (i := 798) (by decide +kernel)) rfl
theorem w_617 : Cond.fieldLink RX7 38 "LeaningTreesModel" "imageShelfNodes" "[I" ∈ lw_gd := gd (List.mem_of_getElem? (i := 799) (by decide +kernel)) rfl
theorem w_618 : Cond.fieldLink RX7 41 "LeaningTreesModel" "imageShelfTree" "[I" ∈ lw_gd := gd (List.mem_of_getElem? (i := 800) (by decide +kernel)) rfl
theorem w_max : Cond.static Lib.Math.max.name ∈ lw_gd ∧ Cond.initialized "java/lang/Math" ∈ lw_gd ∧ Cond.code Lib.Math.max.name Lib.Math.max.code 2 (some .int) ∈ lw_gd := ⟨gd (w := Cond.static Lib.Math.max.name) (List.mem_of_getElem? (i := 421) (by decide +kernel)) rfl, gd (w := Cond.initialized "java/lang/Math") (List.mem_of_getElem? (i := 12) (by decide +kernel)) rfl, gd (w := Cond.code Lib.Math.max.name Lib.Math.max.code 2 (some .int)) (List.mem_of_getElem? (i := 422) (by decide +kernel)) rfl⟩
theorem w_min : Cond.static Lib.Math.min.name ∈ lw_gd ∧ Cond.initialized "java/lang/Math" ∈ lw_gd ∧ Cond.code Lib.Math.min.name Lib.Math.min.code 2 (some .int) ∈ lw_gd := ⟨gd (w := Cond.static Lib.Math.min.name) (List.mem_of_getElem? (i := 434) (by decide +kernel)) rfl, gd (w := Cond.initialized "java/lang/Math") (List.mem_of_getElem? (i := 12) (by decide +kernel)) rfl, gd (w := Cond.code Lib.Math.min.name Lib.Math.min.code 2 (some .int)) (List.mem_of_getElem? (i := 435) (by decide +kernel)) rfl⟩
theorem w_copy : Cond.native arraycopyName ∈ lw_gd ∧ Cond.static arraycopyName ∈ lw_gd ∧ Cond.initialized "java/lang/System" ∈ lw_gd := ⟨gd (w := Cond.native arraycopyName) (List.mem_of_getElem? (i := 245) (by decide +kernel)) rfl, gd (w := Cond.static arraycopyName) (List.mem_of_getElem? (i := 244) (by decide +kernel)) rfl, gd (w := Cond.initialized "java/lang/System") (List.mem_of_getElem? (i := 10) (by decide +kernel)) rfl⟩
theorem msJ_fillI : MS yJ_fillI prog_13_method_103_code 4 none 2 := ⟨⟨gd (w := Cond.static yJ_fillI) (List.mem_of_getElem? (i := 114) (by decide +kernel)) rfl, gd (w := Cond.initialized "java/util/Arrays") (List.mem_of_getElem? (i := 7) (by decide +kernel)) rfl, gd (w := Cond.code yJ_fillI prog_13_method_103_code 4 none) (List.mem_of_getElem? (i := 115) (by decide +kernel)) rfl⟩, by decide, by decide, by decide +kernel⟩
theorem msJ_fillL : MS yJ_fillL prog_13_method_101_code 5 none 2 := ⟨⟨gd (w := Cond.static yJ_fillL) (List.mem_of_getElem? (i := 622) (by decide +kernel)) rfl, gd (w := Cond.initialized "java/util/Arrays") (List.mem_of_getElem? (i := 7) (by decide +kernel)) rfl, gd (w := Cond.code yJ_fillL prog_13_method_101_code 5 none) (List.mem_of_getElem? (i := 623) (by decide +kernel)) rfl⟩, by decide, by decide, by decide +kernel⟩
end
section
def fsX0 (ad : Nat → Nat) (M : Mm) : List Value := [.ref (ad 2), .ref (ad 3)]
theorem inX0 : ∀ w ∈ u_ws RX0 TX0 2, w ∈ lw_gd := by decide +kernel
def fsX1 (ad : Nat → Nat) (M : Mm) : List Value := [.ref (ad 17), .ref (ad 21)]
theorem inX1 : ∀ w ∈ u_ws RX1 TX1 2, w ∈ lw_gd := by decide +kernel
def fsX2 (ad : Nat → Nat) (M : Mm) : List Value := [.ref (ad 1), .ref (ad 5), .ref (ad 6)]
theorem inX2 : ∀ w ∈ u_ws RX2 TX2 3, w ∈ lw_gd := by decide +kernel
def fsX3 (ad : Nat → Nat) (M : Mm) : List Value := [.ref (ad 15), .int (M.2.2 44)]
theorem inX3 : ∀ w ∈ u_ws RX3 TX3 2, w ∈ lw_gd := by decide +kernel
def fsX4 (ad : Nat → Nat) (M : Mm) : List Value := [.ref (ad 23), .int (M.2.2 45), .ref (ad 24), .ref (ad 25), .ref (ad 26), .int (M.2.2 46), .int (M.2.2 47), .int (M.2.2 48)]
theorem inX4 : ∀ w ∈ u_ws RX4 TX4 8, w ∈ lw_gd := by decide +kernel
def fsX5 (ad : Nat → Nat) (M : Mm) : List Value := [.ref (ad 1), .ref (ad 8), .ref (ad 9), .ref (ad 10), .ref (ad 11), .ref (ad 12), .ref (ad 13), .int (M.2.2 42), .int (M.2.2 43)]
theorem inX5 : ∀ w ∈ u_ws RX5 TX5 9, w ∈ lw_gd := by decide +kernel
def fsX6 (ad : Nat → Nat) (M : Mm) : List Value := [.ref (ad 1), .ref (ad 4), .ref (ad 7), .ref (ad 14), .ref (ad 16), .ref (ad 22), .ref (ad 27), .ref (ad 28), .int (M.2.2 40), .int (M.2.2 41)]
theorem inX6 : ∀ w ∈ u_ws RX6 TX6 10, w ∈ lw_gd := by decide +kernel
def fsX7 (ad : Nat → Nat) (M : Mm) : List Value := [.int (M.2.2 40), .int (M.2.2 41), .ref (ad 1), .ref (ad 2), .ref (ad 3), .ref (ad 4), .int (M.2.2 42), .ref (ad 5), .ref (ad 6), .ref (ad 7), .int (M.2.2 43), .int (M.2.2 44), .int (M.2.2 45), .int (M.2.2 46), .int (M.2.2 47), .ref (ad 8), .ref (ad 9), .ref (ad 10), .int (M.2.2 48), .int (M.2.2 49), .ref (ad 11), .ref (ad 12), .ref (ad 13), .ref (ad 14), .ref (ad 15), .int (M.2.2 50), .ref (ad 16), .ref (ad 17), .ref (ad 18), .ref (ad 19), .int (M.2.2 51), .int (M.2.2 52), .ref (ad 20), .int (M.2.2 53), .int (M.2.2 54)]
theorem inX7 : ∀ w ∈ u_ws RX7 TX7 35, w ∈ lw_gd := by decide +kernel
def KF (wOf : Mm → va_W) (po ad : Nat → Nat) (ct : Nat → ClassId) : Prop :=
  OB wOf po ad 1 0 (fsX0 ad) ∧
  IA wOf po ad (ct 0) 2 626 ∧
  IA wOf po ad (ct 0) 3 626
def KC (wOf : Mm → va_W) (po ad : Nat → Nat) (ct : Nat → ClassId) : Prop :=
  KF wOf po ad ct ∧
  OB wOf po ad 4 2 (fsX2 ad) ∧
  OB wOf po ad 7 5 (fsX5 ad) ∧
  OB wOf po ad 14 3 (fsX3 ad) ∧
  OB wOf po ad 16 1 (fsX1 ad) ∧
  OB wOf po ad 22 4 (fsX4 ad) ∧
  OB wOf po ad 0 6 (fsX6 ad) ∧
  IA wOf po ad (ct 0) 5 429 ∧
  IA wOf po ad (ct 0) 6 429 ∧
  IA wOf po ad (ct 0) 8 4382 ∧
  IA wOf po ad (ct 0) 9 4382 ∧
  IA wOf po ad (ct 2) 10 8 ∧
  IA wOf po ad (ct 0) 11 626 ∧
  IA wOf po ad (ct 0) 12 429 ∧
  IA wOf po ad (ct 0) 13 626 ∧
  IA wOf po ad (ct 0) 15 10 ∧
  IA wOf po ad (ct 0) 21 3 ∧
  IA wOf po ad (ct 0) 23 60 ∧
  IA wOf po ad (ct 0) 24 7 ∧
  IA wOf po ad (ct 0) 25 7 ∧
  IA wOf po ad (ct 0) 26 7 ∧
  IA wOf po ad (ct 0) 27 4 ∧
  IA wOf po ad (ct 0) 28 4 ∧
  (∀ M : Mm, (wOf M)[po 17]? = some (ad 17, .inl (ct 3, 3, .inr (.inr (.inr (.inr (fun i => if i < 3 then some (ad (18 + i)) else none))))))) ∧
  (∀ t : Nat, t < 3 → LA wOf po ad (ct 1) (18 + t) t 20) ∧
  OS wOf po ad 7 5 7 42 (fsX5 ad) ∧
  OS wOf po ad 7 5 8 43 (fsX5 ad) ∧
  OS wOf po ad 14 3 1 44 (fsX3 ad) ∧
  OS wOf po ad 22 4 1 45 (fsX4 ad) ∧
  OS wOf po ad 22 4 5 46 (fsX4 ad) ∧
  OS wOf po ad 22 4 6 47 (fsX4 ad) ∧
  OS wOf po ad 22 4 7 48 (fsX4 ad) ∧
  OS wOf po ad 0 6 8 40 (fsX6 ad) ∧
  OS wOf po ad 0 6 9 41 (fsX6 ad)
def KM (wOf : Mm → va_W) (po ad : Nat → Nat) (ct : Nat → ClassId) : Prop :=
  OB wOf po ad 0 7 (fsX7 ad) ∧
  IA wOf po ad (ct 0) 1 4 ∧
  IA wOf po ad (ct 0) 2 4 ∧
  IA wOf po ad (ct 0) 3 10 ∧
  IA wOf po ad (ct 0) 4 10 ∧
  LA wOf po ad (ct 1) 5 0 60 ∧
  IA wOf po ad (ct 0) 6 3 ∧
  IA wOf po ad (ct 0) 7 60 ∧
  IA wOf po ad (ct 0) 8 4 ∧
  IA wOf po ad (ct 0) 9 4 ∧
  IA wOf po ad (ct 0) 10 429 ∧
  IA wOf po ad (ct 0) 11 7 ∧
  IA wOf po ad (ct 0) 12 7 ∧
  IA wOf po ad (ct 0) 13 7 ∧
  IA wOf po ad (ct 0) 14 7 ∧
  IA wOf po ad (ct 0) 15 7 ∧
  IA wOf po ad (ct 0) 16 429 ∧
  IA wOf po ad (ct 0) 17 429 ∧
  IA wOf po ad (ct 0) 18 429 ∧
  IA wOf po ad (ct 0) 19 60 ∧
  IA wOf po ad (ct 0) 20 7 ∧
  OS wOf po ad 0 7 0 40 (fsX7 ad) ∧
  OS wOf po ad 0 7 1 41 (fsX7 ad) ∧
  OS wOf po ad 0 7 6 42 (fsX7 ad) ∧
  OS wOf po ad 0 7 10 43 (fsX7 ad) ∧
  OS wOf po ad 0 7 11 44 (fsX7 ad) ∧
  OS wOf po ad 0 7 12 45 (fsX7 ad) ∧
  OS wOf po ad 0 7 13 46 (fsX7 ad) ∧
  OS wOf po ad 0 7 14 47 (fsX7 ad) ∧
  OS wOf po ad 0 7 18 48 (fsX7 ad) ∧
  OS wOf po ad 0 7 19 49 (fsX7 ad) ∧
  OS wOf po ad 0 7 25 50 (fsX7 ad) ∧
  OS wOf po ad 0 7 30 51 (fsX7 ad) ∧
  OS wOf po ad 0 7 31 52 (fsX7 ad) ∧
  OS wOf po ad 0 7 33 53 (fsX7 ad) ∧
  OS wOf po ad 0 7 34 54 (fsX7 ad)

theorem fill_0 {α : Type} (v : α) (f : Nat → α) : fillF 0 v f = f := by funext j; simp [fillF]
theorem fill_sI (v : Int32) (f : Nat → Int32) (j : Nat) : upd (fillF j v f) j v = fillF (j + 1) v f := by
  funext k
  unfold upd fillF
  by_cases h : k = j
  · simp [h]
  · by_cases h2 : k < j
    · simp [h, h2, Nat.lt_succ_of_lt h2]
    · simp [h, h2, show ¬ k < j + 1 by omega]
theorem fill_sL (v : Int64) (f : Nat → Int64) (j : Nat) : vp_updL (fillF j v f) j v = fillF (j + 1) v f := by
  funext k
  unfold vp_updL fillF
  by_cases h : k = j
  · simp [h]
  · by_cases h2 : k < j
    · simp [h, h2, Nat.lt_succ_of_lt h2]
    · simp [h, h2, show ¬ k < j + 1 by omega]
theorem tJ_fillI {l : Launch} {D : va_G} {ct : Nat → ClassId} {tF : Nat} {wOf : Mm → va_W} {po ad : Nat → Nat} {q n : Nat} (hA : IA wOf po ad (ct 0) q n) (hn : n < 2 ^ 31) (M : Mm) (v : Int32) : CtV l yJ_fillI prog_13_method_103_code 4 { frames := 0, cells := 0, slots := 0, locals := 0 } D ct tF wOf [.ref (ad q), .int v] M (mk M [(q, fillF n v (M.1 q))] M.2.1 []) := by
  refine metV (by decide) (Nat.le_of_ble_eq_true rfl) fun κ X e1 eR e3 e4 hs => ?_
  subst e1; subst e3; subst e4
  have hk1 : ∀ f : Nat → Int32, hk [(q, f)] q = true := fun f => by simp [hk]
  have hrp : ∀ f g : Nat → Int32, rp [(q, f)] q g = [(q, g)] := fun f g => by simp [rp]
  have hpu : ∀ f : Nat → Int32, pu M.1 [(q, f)] q = f := fun f => by simp [pu]
  have loop : ∀ k j : Nat, j + k = n → Zj κ 4 5 [(0, .ref (ad q)), (1, .int v), (2, .int (nI j)), (3, .int (nI n))] [] (mk M [(q, fillF j v (M.1 q))] M.2.1 []) := by
    intro k
    induction k with
    | zero =>
      intro j hj
      have hj : j = n := hj
      subst hj
      refine z_iload_n X dJ_fillI_5 2 rfl rfl ?_
      refine z_iload_n X dJ_fillI_6 3 rfl rfl ?_
      refine z_icmp_ge (tgt := 20) X dJ_fillI_7 (by decide) (fun c => ?_) (fun c => ?_)
      · exact z_vret hs dJ_fillI_20
      · exact absurd (nI_le (Nat.le_refl j) hn) c
    | succ k ih =>
      intro j hj
      refine z_iload_n X dJ_fillI_5 2 rfl rfl ?_
      refine z_iload_n X dJ_fillI_6 3 rfl rfl ?_
      refine z_icmp_ge (tgt := 20) X dJ_fillI_7 (by decide) (fun c => ?_) (fun c => ?_)
      · exact absurd c (nI_ge (by omega) hn)
      · refine z_aload_n X dJ_fillI_10 0 rfl rfl ?_
        refine z_iload_n X dJ_fillI_11 2 rfl rfl ?_
        refine z_iload_n X dJ_fillI_12 1 rfl rfl ?_
        refine z_iast (g := fillF (j + 1) v (M.1 q)) (M' := mk M [(q, fillF (j + 1) v (M.1 q))] M.2.1 []) X (hA _).1 ⟨vp_in_nI (by omega) hn, ?_⟩ (mk_set1 hA (hk1 _) (hrp _ _)) dJ_fillI_13 ?_
        · rw [nI_clamp (by omega)]
          show upd (pu M.1 [(q, fillF j v (M.1 q))] q) j v = _
          rw [hpu]
          exact fill_sI v (M.1 q) j
        · refine z_iinc (v := nI (j + 1)) (lv' := [(2, .int (nI (j + 1))), (0, .ref (ad q)), (1, .int v), (3, .int (nI n))]) X dJ_fillI_14 2 rfl (nI_1 j) (by decide) rfl ?_
          refine z_goto (tgt := 5) X dJ_fillI_17 (by decide) ?_
          exact z_sub [1, 2, 0, 3] rfl (ih (j + 1) (by omega))
  refine z_mem (mk_self M [q] []) ?_
  refine z_sub (lv' := [(0, .ref (ad q)), (1, .int v)]) [0, 1] rfl ?_
  refine z_iconst (v := nI 0) X dJ_fillI_0 (by decide) ?_
  refine z_istore_n (lv' := [(2, .int (nI 0)), (0, .ref (ad q)), (1, .int v)]) X dJ_fillI_1 rfl (by decide) rfl ?_
  refine z_aload_n X dJ_fillI_2 1 rfl rfl ?_
  refine z_alen (t0 := 0) (v := nI n) X (hA _).1 rfl rfl dJ_fillI_3 ?_
  refine z_istore_n (lv' := [(3, .int (nI n)), (2, .int (nI 0)), (0, .ref (ad q)), (1, .int v)]) X dJ_fillI_4 rfl (by decide) rfl ?_
  have h0 := loop n 0 (by omega)
  rw [fill_0] at h0
  exact z_sub [2, 3, 1, 0] rfl h0
theorem tJ_fillL {l : Launch} {D : va_G} {ct : Nat → ClassId} {tF : Nat} {wOf : Mm → va_W} {po ad : Nat → Nat} {q r n : Nat} (hA : LA wOf po ad (ct 1) q r n) (hn : n < 2 ^ 31) (M : Mm) (v : Int64) : CtV l yJ_fillL prog_13_method_101_code 5 { frames := 0, cells := 0, slots := 0, locals := 0 } D ct tF wOf [.ref (ad q), .long v] M (mk M [] (pu M.2.1 [(r, fillF n v (M.2.1 r))]) []) := by
  refine metV (by decide) (Nat.le_of_ble_eq_true rfl) fun κ X e1 eR e3 e4 hs => ?_
  subst e1; subst e3; subst e4
  have hpu : ∀ f : Nat → Int64, pu M.2.1 [(r, f)] r = f := fun f => by simp [pu]
  have hpp : ∀ f g : Nat → Int64, pu (pu M.2.1 [(r, f)]) [(r, g)] = pu M.2.1 [(r, g)] := fun f g => by
    funext k
    simp only [pu]
    by_cases h : k = r <;> simp [h]
  have loop : ∀ k j : Nat, j + k = n → Zj κ 5 6 [(0, .ref (ad q)), (1, .long v), (3, .int (nI j)), (4, .int (nI n))] [] (mk M [] (pu M.2.1 [(r, fillF j v (M.2.1 r))]) []) := by
    intro k
    induction k with
    | zero =>
      intro j hj
      have hj : j = n := hj
      subst hj
      refine z_iload_n X dJ_fillL_6 2 rfl rfl ?_
      refine z_iload X dJ_fillL_7 3 rfl ?_
      refine z_icmp_ge (tgt := 22) X dJ_fillL_9 (by decide) (fun c => ?_) (fun c => ?_)
      · exact z_vret hs dJ_fillL_22
      · exact absurd (nI_le (Nat.le_refl j) hn) c
    | succ k ih =>
      intro j hj
      refine z_iload_n X dJ_fillL_6 2 rfl rfl ?_
      refine z_iload X dJ_fillL_7 3 rfl ?_
      refine z_icmp_ge (tgt := 22) X dJ_fillL_9 (by decide) (fun c => ?_) (fun c => ?_)
      · exact absurd c (nI_ge (by omega) hn)
      · refine z_aload_n X dJ_fillL_12 0 rfl rfl ?_
        refine z_iload_n X dJ_fillL_13 2 rfl rfl ?_
        refine z_lload_n X dJ_fillL_14 1 rfl rfl ?_
        refine z_last (g := fillF (j + 1) v (M.2.1 r)) (M' := mk M [] (pu M.2.1 [(r, fillF (j + 1) v (M.2.1 r))]) []) X (hA _).1 ⟨vp_in_nI (by omega) hn, ?_⟩ (mk_setL hA (hpp _ _)) dJ_fillL_15 ?_
        · rw [nI_clamp (by omega)]
          show vp_updL (pu M.2.1 [(r, fillF j v (M.2.1 r))] r) j v = _
          rw [hpu]
          exact fill_sL v (M.2.1 r) j
        · refine z_iinc (v := nI (j + 1)) (lv' := [(3, .int (nI (j + 1))), (0, .ref (ad q)), (1, .long v), (4, .int (nI n))]) X dJ_fillL_16 2 rfl (nI_1 j) (by decide) rfl ?_
          refine z_goto (tgt := 6) X dJ_fillL_19 (by decide) ?_
          exact z_sub [1, 2, 0, 3] rfl (ih (j + 1) (by omega))
  have hid : pu M.2.1 [(r, fillF 0 v (M.2.1 r))] = M.2.1 := by
    rw [fill_0]
    exact pu_self M.2.1 [r]
  refine z_mem (mk_self M [] []) ?_
  refine z_sub (lv' := [(0, .ref (ad q)), (1, .long v)]) [0, 1] rfl ?_
  refine z_iconst (v := nI 0) X dJ_fillL_0 (by decide) ?_
  refine z_istore_n (lv' := [(3, .int (nI 0)), (0, .ref (ad q)), (1, .long v)]) X dJ_fillL_1 rfl (by decide) rfl ?_
  refine z_aload_n X dJ_fillL_2 1 rfl rfl ?_
  refine z_alen (t0 := 1) (v := nI n) X (hA _).1 rfl rfl dJ_fillL_3 ?_
  refine z_istore (lv' := [(4, .int (nI n)), (3, .int (nI 0)), (0, .ref (ad q)), (1, .long v)]) X dJ_fillL_4 (by decide) rfl ?_
  have h0 := loop n 0 (by omega)
  rw [hid] at h0
  exact z_sub [2, 3, 1, 0] rfl h0
end
section
def fJ0_bitCount  (v0 : Int32) : Option Int32 :=
  some ((((((((v0 - ((((v0).toUInt32 >>> (((1 : Int32)).toUInt32 &&& Int32.toUInt32 31)).toInt32) &&& (1431655765 : Int32))) &&& (858993459 : Int32)) + (((((v0 - ((((v0).toUInt32 >>> (((1 : Int32)).toUInt32 &&& Int32.toUInt32 31)).toInt32) &&& (1431655765 : Int32)))).toUInt32 >>> (((2 : Int32)).toUInt32 &&& Int32.toUInt32 31)).toInt32) &&& (858993459 : Int32))) + ((((((v0 - ((((v0).toUInt32 >>> (((1 : Int32)).toUInt32 &&& Int32.toUInt32 31)).toInt32) &&& (1431655765 : Int32))) &&& (858993459 : Int32)) + (((((v0 - ((((v0).toUInt32 >>> (((1 : Int32)).toUInt32 &&& Int32.toUInt32 31)).toInt32) &&& (1431655765 : Int32)))).toUInt32 >>> (((2 : Int32)).toUInt32 &&& Int32.toUInt32 31)).toInt32) &&& (858993459 : Int32)))).toUInt32 >>> (((4 : Int32)).toUInt32 &&& Int32.toUInt32 31)).toInt32)) &&& (252645135 : Int32)) + ((((((((v0 - ((((v0).toUInt32 >>> (((1 : Int32)).toUInt32 &&& Int32.toUInt32 31)).toInt32) &&& (1431655765 : Int32))) &&& (858993459 : Int32)) + (((((v0 - ((((v0).toUInt32 >>> (((1 : Int32)).toUInt32 &&& Int32.toUInt32 31)).toInt32) &&& (1431655765 : Int32)))).toUInt32 >>> (((2 : Int32)).toUInt32 &&& Int32.toUInt32 31)).toInt32) &&& (858993459 : Int32))) + ((((((v0 - ((((v0).toUInt32 >>> (((1 : Int32)).toUInt32 &&& Int32.toUInt32 31)).toInt32) &&& (1431655765 : Int32))) &&& (858993459 : Int32)) + (((((v0 - ((((v0).toUInt32 >>> (((1 : Int32)).toUInt32 &&& Int32.toUInt32 31)).toInt32) &&& (1431655765 : Int32)))).toUInt32 >>> (((2 : Int32)).toUInt32 &&& Int32.toUInt32 31)).toInt32) &&& (858993459 : Int32)))).toUInt32 >>> (((4 : Int32)).toUInt32 &&& Int32.toUInt32 31)).toInt32)) &&& (252645135 : Int32))).toUInt32 >>> (((8 : Int32)).toUInt32 &&& Int32.toUInt32 31)).toInt32)) + (((((((((v0 - ((((v0).toUInt32 >>> (((1 : Int32)).toUInt32 &&& Int32.toUInt32 31)).toInt32) &&& (1431655765 : Int32))) &&& (858993459 : Int32)) + (((((v0 - ((((v0).toUInt32 >>> (((1 : Int32)).toUInt32 &&& Int32.toUInt32 31)).toInt32) &&& (1431655765 : Int32)))).toUInt32 >>> (((2 : Int32)).toUInt32 &&& Int32.toUInt32 31)).toInt32) &&& (858993459 : Int32))) + ((((((v0 - ((((v0).toUInt32 >>> (((1 : Int32)).toUInt32 &&& Int32.toUInt32 31)).toInt32) &&& (1431655765 : Int32))) &&& (858993459 : Int32)) + (((((v0 - ((((v0).toUInt32 >>> (((1 : Int32)).toUInt32 &&& Int32.toUInt32 31)).toInt32) &&& (1431655765 : Int32)))).toUInt32 >>> (((2 : Int32)).toUInt32 &&& Int32.toUInt32 31)).toInt32) &&& (858993459 : Int32)))).toUInt32 >>> (((4 : Int32)).toUInt32 &&& Int32.toUInt32 31)).toInt32)) &&& (252645135 : Int32)) + ((((((((v0 - ((((v0).toUInt32 >>> (((1 : Int32)).toUInt32 &&& Int32.toUInt32 31)).toInt32) &&& (1431655765 : Int32))) &&& (858993459 : Int32)) + (((((v0 - ((((v0).toUInt32 >>> (((1 : Int32)).toUInt32 &&& Int32.toUInt32 31)).toInt32) &&& (1431655765 : Int32)))).toUInt32 >>> (((2 : Int32)).toUInt32 &&& Int32.toUInt32 31)).toInt32) &&& (858993459 : Int32))) + ((((((v0 - ((((v0).toUInt32 >>> (((1 : Int32)).toUInt32 &&& Int32.toUInt32 31)).toInt32) &&& (1431655765 : Int32))) &&& (858993459 : Int32)) + (((((v0 - ((((v0).toUInt32 >>> (((1 : Int32)).toUInt32 &&& Int32.toUInt32 31)).toInt32) &&& (1431655765 : Int32)))).toUInt32 >>> (((2 : Int32)).toUInt32 &&& Int32.toUInt32 31)).toInt32) &&& (858993459 : Int32)))).toUInt32 >>> (((4 : Int32)).toUInt32 &&& Int32.toUInt32 31)).toInt32)) &&& (252645135 : Int32))).toUInt32 >>> (((8 : Int32)).toUInt32 &&& Int32.toUInt32 31)).toInt32))).toUInt32 >>> (((16 : Int32)).toUInt32 &&& Int32.toUInt32 31)).toInt32)) &&& (63 : Int32))
def fX0_isSize  (v0 : Int32) : Option Int32 :=
  if v0 < (1 : Int32) then
    some (0 : Int32)
  else
    if (7 : Int32) < v0 then
      some (0 : Int32)
    else
      some (1 : Int32)
def fX0_sizeOf (a_sizes : Nat → Int32) (v1 : Int32) : Option Int32 :=
  if v1 < 0 then
    some (0 : Int32)
  else
    if (626 : Int32) ≤ v1 then
      some (0 : Int32)
    else
      (rd 626 a_sizes v1).bind fun t1 =>
      some t1
def fX0_firstOf  (v1 : Int32) : Option Int32 :=
  (fX0_isSize v1).bind fun r1 =>
  if r1 = 0 then
    some (0 : Int32)
  else
    (rd 9 fiF v1).bind fun t2 =>
    some t2
def fX0_lastOf  (v1 : Int32) : Option Int32 :=
  (fX0_isSize v1).bind fun r1 =>
  if r1 = 0 then
    some (0 : Int32)
  else
    (rd 9 fiF (v1 + (1 : Int32))).bind fun t2 =>
    some (t2 - (1 : Int32))
def fX0_codeOf (a_codes : Nat → Int32) (v1 : Int32) : Option Int32 :=
  if v1 < 0 then
    some (0 : Int32)
  else
    if (626 : Int32) ≤ v1 then
      some (0 : Int32)
    else
      (rd 626 a_codes v1).bind fun t1 =>
      some t1
def fX0_find_J52 (a_codes : Nat → Int32) (v2 : Int32) (v3 : Int32) (v4 : Int32) (v5 : Int32)  : Option ((Int32 × Int32) ⊕ Int32) :=
  some (.inl (v4, (v5 >>> ((1 : Int32) &&& 31))))
def fX0_find_B18 (a_codes : Nat → Int32) (v2 : Int32) (v3 : Int32) (x : (Int32 × Int32)) : Option ((Int32 × Int32) ⊕ Int32) :=
  if x.2 ≤ 0 then
    some (.inr x.1)
  else
    if v3 < (x.1 + x.2) then
      fX0_find_J52 a_codes v2 v3 x.1 x.2
    else
      (fX0_codeOf a_codes (x.1 + x.2)).bind fun r1 =>
      if v2 < r1 then
        fX0_find_J52 a_codes v2 v3 x.1 x.2
      else
        fX0_find_J52 a_codes v2 v3 (x.1 + x.2) x.2
def fX0_find (a_codes : Nat → Int32) (v1 : Int32) (v2 : Int32) : Option Int32 :=
  (fX0_lastOf v1).bind fun r1 =>
  (fX0_firstOf v1).bind fun r2 =>
  (it (fX0_find_B18 a_codes v2 r1) FU (r2, (256 : Int32))).bind fun y3 =>
  (fX0_codeOf a_codes y3).bind fun r4 =>
  if r4 = v2 then
    some y3
  else
    some (0 : Int32)
def fX0_findDigits_B14  (v1 : Int32) (x : (Int32 × Int32 × Int32)) : Option ((Int32 × Int32 × Int32) ⊕ (Int32 × Int32)) :=
  if v1 ≤ x.2.2 then
    some (.inr (x.1, x.2.1))
  else
    (rmo x.2.1 (10 : Int32)).bind fun t1 =>
    (dvo x.2.1 (10 : Int32)).bind fun t2 =>
    some (.inl ((x.1 ||| (t1 <<< (((4 : Int32) * x.2.2) &&& 31))), t2, (x.2.2 + 1)))
def fX0_findDigits (a_codes : Nat → Int32) (v1 : Int32) (v2 : Int32) : Option Int32 :=
  if 0 ≤ v2 then
    (it (fX0_findDigits_B14 v1) FU ((0 : Int32), v2, (0 : Int32))).bind fun y1 =>
    if y1.2 = 0 then
      (fX0_find a_codes v1 y1.1).bind fun r2 =>
      some r2
    else
      some (0 : Int32)
  else
    some (0 : Int32)
def fX0_numberOf (a_sizes : Nat → Int32) (v1 : Int32) : Option Int32 :=
  (fX0_sizeOf a_sizes v1).bind fun r1 =>
  (fX0_firstOf r1).bind fun r2 =>
  some (v1 - r2)
def fX0_rightSize (a_codes : Nat → Int32) (a_sizes : Nat → Int32) (v1 : Int32) (v2 : Int32) : Option Int32 :=
  if v1 < 0 then
    some (0 : Int32)
  else
    if v1 < (626 : Int32) then
      (rd 626 a_codes v1).bind fun t1 =>
      (rd 626 a_sizes v1).bind fun t2 =>
      some ((t1 >>> (((4 : Int32) * ((t2 - (1 : Int32)) - v2)) &&& 31)) &&& (15 : Int32))
    else
      some (0 : Int32)
def fX0_end (a_codes : Nat → Int32) (a_sizes : Nat → Int32) (v1 : Int32) (v2 : Int32) : Option Int32 :=
  (fX0_rightSize a_codes a_sizes v1 v2).bind fun r1 =>
  some (v2 + r1)
def fX0_leftSize_B7 (a_codes : Nat → Int32) (a_sizes : Nat → Int32) (v1 : Int32) (v2 : Int32) (x : (Int32 × Int32)) : Option ((Int32 × Int32) ⊕ Int32) :=
  if x.2 < 0 then
    some (.inr x.1)
  else
    (fX0_end a_codes a_sizes v1 x.2).bind fun r1 =>
    if v2 ≤ r1 then
      some (.inr x.1)
    else
      some (.inl ((x.1 + 1), (x.2 + (-1))))
def fX0_leftSize (a_codes : Nat → Int32) (a_sizes : Nat → Int32) (v1 : Int32) (v2 : Int32) : Option Int32 :=
  (it (fX0_leftSize_B7 a_codes a_sizes v1 v2) FU ((0 : Int32), (v2 - (1 : Int32)))).bind fun y1 =>
  some y1
def fX0_depth_J49 (a_codes : Nat → Int32) (a_sizes : Nat → Int32) (v1 : Int32) (v2 : Int32) (v3 : Int32) (v4 : Int32)  : Option ((Int32 × Int32) ⊕ Int32) :=
  some (.inl (v3, (v4 + 1)))
def fX0_depth_B5 (a_codes : Nat → Int32) (a_sizes : Nat → Int32) (v1 : Int32) (v2 : Int32) (x : (Int32 × Int32)) : Option ((Int32 × Int32) ⊕ Int32) :=
  (fX0_sizeOf a_sizes v1).bind fun r1 =>
  if r1 ≤ x.2 then
    some (.inr x.1)
  else
    if x.2 = v2 then
      fX0_depth_J49 a_codes a_sizes v1 v2 x.1 x.2
    else
      (fX0_leftSize a_codes a_sizes v1 x.2).bind fun r2 =>
      if v2 < (x.2 - r2) then
        fX0_depth_J49 a_codes a_sizes v1 v2 x.1 x.2
      else
        (fX0_end a_codes a_sizes v1 x.2).bind fun r3 =>
        if r3 < v2 then
          fX0_depth_J49 a_codes a_sizes v1 v2 x.1 x.2
        else
          fX0_depth_J49 a_codes a_sizes v1 v2 (x.1 + 1) x.2
def fX0_depth (a_codes : Nat → Int32) (a_sizes : Nat → Int32) (v1 : Int32) (v2 : Int32) : Option Int32 :=
  (it (fX0_depth_B5 a_codes a_sizes v1 v2) FU ((0 : Int32), (0 : Int32))).bind fun y1 =>
  some y1
def fX0_top_B3 (a_codes : Nat → Int32) (a_sizes : Nat → Int32) (v1 : Int32) (v3 : Int32) (x : Int32) : Option (Int32 ⊕ (Unit ⊕ Int32)) :=
  if v3 < x then
    some (.inr (.inl ()))
  else
    (fX0_end a_codes a_sizes v1 x).bind fun r1 =>
    if r1 = v3 then
      some (.inr (.inr x))
    else
      some (.inl (x + 1))
def fX0_top (a_codes : Nat → Int32) (a_sizes : Nat → Int32) (v1 : Int32) (v2 : Int32) (v3 : Int32) : Option Int32 :=
  (it (fX0_top_B3 a_codes a_sizes v1 v3) FU v2).bind (Sum.elim (fun y1 =>
    some (-5 : Int32)) some)
def fX0_rightChild (a_codes : Nat → Int32) (a_sizes : Nat → Int32) (v1 : Int32) (v2 : Int32) : Option Int32 :=
  (fX0_end a_codes a_sizes v1 v2).bind fun r1 =>
  (fX0_top a_codes a_sizes v1 (v2 + (1 : Int32)) r1).bind fun r2 =>
  some r2
def fX0_leftChild (a_codes : Nat → Int32) (a_sizes : Nat → Int32) (v1 : Int32) (v2 : Int32) : Option Int32 :=
  (fX0_leftSize a_codes a_sizes v1 v2).bind fun r1 =>
  (fX0_top a_codes a_sizes v1 (v2 - r1) (v2 - (1 : Int32))).bind fun r2 =>
  some r2
def fX0_parent_J38 (a_codes : Nat → Int32) (a_sizes : Nat → Int32) (v1 : Int32) (v3 : Int32)  : Option Int32 :=
  (fX0_sizeOf a_sizes v1).bind fun r1 =>
  if r1 ≤ (v3 + (1 : Int32)) then
    some (-5 : Int32)
  else
    some (v3 + (1 : Int32))
def fX0_parent (a_codes : Nat → Int32) (a_sizes : Nat → Int32) (v1 : Int32) (v2 : Int32) : Option Int32 :=
  (fX0_end a_codes a_sizes v1 v2).bind fun r1 =>
  (fX0_leftSize a_codes a_sizes v1 v2).bind fun r2 =>
  if ((v2 - r2) - (1 : Int32)) < 0 then
    fX0_parent_J38 a_codes a_sizes v1 r1
  else
    (fX0_end a_codes a_sizes v1 ((v2 - r2) - (1 : Int32))).bind fun r3 =>
    if r3 = r1 then
      some ((v2 - r2) - (1 : Int32))
    else
      fX0_parent_J38 a_codes a_sizes v1 r1
def fX0_howMany  (v1 : Int32) : Option Int32 :=
  (fX0_lastOf v1).bind fun r1 =>
  (fX0_firstOf v1).bind fun r2 =>
  some ((r1 - r2) + (1 : Int32))
def fX0_asDigits_B4 (a_codes : Nat → Int32) (a_sizes : Nat → Int32) (v1 : Int32) (x : (Int32 × Int32)) : Option ((Int32 × Int32) ⊕ Int32) :=
  (fX0_sizeOf a_sizes v1).bind fun r1 =>
  if r1 ≤ x.2 then
    some (.inr x.1)
  else
    (fX0_rightSize a_codes a_sizes v1 x.2).bind fun r2 =>
    some (.inl (((x.1 * (10 : Int32)) + r2), (x.2 + 1)))
def fX0_asDigits (a_codes : Nat → Int32) (a_sizes : Nat → Int32) (v1 : Int32) : Option Int32 :=
  (it (fX0_asDigits_B4 a_codes a_sizes v1) FU ((0 : Int32), (0 : Int32))).bind fun y1 =>
  some y1
def fX0_isLeftChild_B23 (a_codes : Nat → Int32) (a_sizes : Nat → Int32) (v1 : Int32) (v2 : Int32) (v3 : Int32) (x : Int32) : Option (Int32 ⊕ (Unit ⊕ Int32)) :=
  if v2 ≤ x then
    some (.inr (.inl ()))
  else
    (fX0_end a_codes a_sizes v1 x).bind fun r1 =>
    if r1 = v3 then
      some (.inr (.inr (0 : Int32)))
    else
      some (.inl (x + 1))
def fX0_isLeftChild (a_codes : Nat → Int32) (a_sizes : Nat → Int32) (v1 : Int32) (v2 : Int32) : Option Int32 :=
  (fX0_end a_codes a_sizes v1 v2).bind fun r1 =>
  (fX0_sizeOf a_sizes v1).bind fun r2 =>
  if (r1 + (1 : Int32)) < r2 then
    (it (fX0_isLeftChild_B23 a_codes a_sizes v1 v2 r1) FU (0 : Int32)).bind (Sum.elim (fun y3 =>
      some (1 : Int32)) some)
  else
    some (0 : Int32)
def fX0_digitAt  (v0 : Int32) (v1 : Int32) (v2 : Int32) : Option Int32 :=
  some (v0 <<< (((4 : Int32) * ((v1 - (1 : Int32)) - v2)) &&& 31))
def fX0_turnedUp (a_codes : Nat → Int32) (a_sizes : Nat → Int32) (v1 : Int32) (v2 : Int32) : Option Int32 :=
  (fX0_isLeftChild a_codes a_sizes v1 v2).bind fun r1 =>
  if r1 = 0 then
    some (0 : Int32)
  else
    (fX0_sizeOf a_sizes v1).bind fun r2 =>
    (fX0_end a_codes a_sizes v1 v2).bind fun r3 =>
    (fX0_codeOf a_codes v1).bind fun r4 =>
    (fX0_rightSize a_codes a_sizes v1 (r3 + (1 : Int32))).bind fun r5 =>
    (fX0_digitAt ((1 : Int32) + r5) r2 v2).bind fun r6 =>
    (fX0_find a_codes r2 (r4 + r6)).bind fun r7 =>
    some r7
def fX0_turnedBack (a_codes : Nat → Int32) (a_sizes : Nat → Int32) (v1 : Int32) (v2 : Int32) : Option Int32 :=
  (fX0_end a_codes a_sizes v1 v2).bind fun r1 =>
  (fX0_top a_codes a_sizes v1 (v2 + (1 : Int32)) r1).bind fun r2 =>
  if r2 = (-5 : Int32) then
    some (0 : Int32)
  else
    (fX0_sizeOf a_sizes v1).bind fun r3 =>
    (fX0_codeOf a_codes v1).bind fun r4 =>
    (fX0_rightSize a_codes a_sizes v1 r2).bind fun r5 =>
    (fX0_digitAt ((1 : Int32) + r5) r3 v2).bind fun r6 =>
    (fX0_find a_codes r3 (r4 - r6)).bind fun r7 =>
    some r7
def fX0_withRightChild_J35  (v3 : Int32) (v4 : Int32) (k0 : Int32) (k1 : Int32) : Option ((Int32 × Int32 × Int32) ⊕ Int32) :=
  some (.inl ((k1 ||| k0), (v3 >>> ((4 : Int32) &&& 31)), (v4 + (-1))))
def fX0_withRightChild_B15   (x : (Int32 × Int32 × Int32)) : Option ((Int32 × Int32 × Int32) ⊕ Int32) :=
  if x.2.2 ≤ 0 then
    some (.inr x.1)
  else
    if (x.2.1 &&& (15 : Int32)) ≤ 0 then
      fX0_withRightChild_J35 x.2.1 x.2.2 (0 : Int32) (x.1 <<< ((1 : Int32) &&& 31))
    else
      fX0_withRightChild_J35 x.2.1 x.2.2 (1 : Int32) (x.1 <<< ((1 : Int32) &&& 31))
def fX0_withRightChild (a_codes : Nat → Int32) (a_sizes : Nat → Int32) (v1 : Int32) : Option Int32 :=
  (fX0_codeOf a_codes v1).bind fun r1 =>
  (fX0_sizeOf a_sizes v1).bind fun r2 =>
  (it (fX0_withRightChild_B15) FU ((0 : Int32), r1, r2)).bind fun y3 =>
  some y3
def fX0_leftChildren_J28 (a_codes : Nat → Int32) (a_sizes : Nat → Int32) (v1 : Int32) (v2 : Int32) (v3 : Int32)  : Option ((Int32 × Int32) ⊕ Int32) :=
  some (.inl (v2, (v3 + 1)))
def fX0_leftChildren_B4 (a_codes : Nat → Int32) (a_sizes : Nat → Int32) (v1 : Int32) (x : (Int32 × Int32)) : Option ((Int32 × Int32) ⊕ Int32) :=
  (fX0_sizeOf a_sizes v1).bind fun r1 =>
  if r1 ≤ x.2 then
    some (.inr x.1)
  else
    (fX0_isLeftChild a_codes a_sizes v1 x.2).bind fun r2 =>
    if r2 = 0 then
      fX0_leftChildren_J28 a_codes a_sizes v1 x.1 x.2
    else
      fX0_leftChildren_J28 a_codes a_sizes v1 (x.1 ||| ((1 : Int32) <<< (x.2 &&& 31))) x.2
def fX0_leftChildren (a_codes : Nat → Int32) (a_sizes : Nat → Int32) (v1 : Int32) : Option Int32 :=
  (it (fX0_leftChildren_B4 a_codes a_sizes v1) FU ((0 : Int32), (0 : Int32))).bind fun y1 =>
  some y1
def fX0_mirrored_B11 (a_codes : Nat → Int32) (a_sizes : Nat → Int32) (v1 : Int32) (v2 : Int32) (x : (Int32 × Int32)) : Option ((Int32 × Int32) ⊕ Int32) :=
  if v2 ≤ x.2 then
    some (.inr x.1)
  else
    (fX0_leftSize a_codes a_sizes v1 x.2).bind fun r1 =>
    (fX0_digitAt r1 v2 ((v2 - (1 : Int32)) - x.2)).bind fun r2 =>
    some (.inl ((x.1 ||| r2), (x.2 + 1)))
def fX0_mirrored (a_codes : Nat → Int32) (a_sizes : Nat → Int32) (v1 : Int32) : Option Int32 :=
  (fX0_sizeOf a_sizes v1).bind fun r1 =>
  (it (fX0_mirrored_B11 a_codes a_sizes v1 r1) FU ((0 : Int32), (0 : Int32))).bind fun y2 =>
  (fX0_find a_codes r1 y2).bind fun r3 =>
  some r3
def fX0_digitOf  (v0 : Int32) (v1 : Int32) (v2 : Int32) : Option Int32 :=
  some ((v0 >>> (((4 : Int32) * ((v1 - (1 : Int32)) - v2)) &&& 31)) &&& (15 : Int32))
def fX0_greatestWith_B6 (a_codes : Nat → Int32) (a_sizes : Nat → Int32) (v1 : Int32) (v2 : Int32) (x : Int32) : Option (Int32 ⊕ (Unit ⊕ Int32)) :=
  (fX0_firstOf v1).bind fun r1 =>
  if x < r1 then
    some (.inr (.inl ()))
  else
    (fX0_withRightChild a_codes a_sizes x).bind fun r2 =>
    if r2 = v2 then
      some (.inr (.inr x))
    else
      some (.inl (x + (-1)))
def fX0_greatestWith (a_codes : Nat → Int32) (a_sizes : Nat → Int32) (v1 : Int32) (v2 : Int32) : Option Int32 :=
  (fX0_lastOf v1).bind fun r1 =>
  (it (fX0_greatestWith_B6 a_codes a_sizes v1 v2) FU r1).bind (Sum.elim (fun y2 =>
    some (0 : Int32)) some)
def fX0_leastWith_B6 (a_codes : Nat → Int32) (a_sizes : Nat → Int32) (v1 : Int32) (v2 : Int32) (x : Int32) : Option (Int32 ⊕ (Unit ⊕ Int32)) :=
  (fX0_lastOf v1).bind fun r1 =>
  if r1 < x then
    some (.inr (.inl ()))
  else
    (fX0_withRightChild a_codes a_sizes x).bind fun r2 =>
    if r2 = v2 then
      some (.inr (.inr x))
    else
      some (.inl (x + 1))
def fX0_leastWith (a_codes : Nat → Int32) (a_sizes : Nat → Int32) (v1 : Int32) (v2 : Int32) : Option Int32 :=
  (fX0_firstOf v1).bind fun r1 =>
  (it (fX0_leastWith_B6 a_codes a_sizes v1 v2) FU r1).bind (Sum.elim (fun y2 =>
    some (0 : Int32)) some)
def fX0_howManyWith_J32 (a_codes : Nat → Int32) (a_sizes : Nat → Int32) (v1 : Int32) (v2 : Int32) (v3 : Int32) (v4 : Int32)  : Option ((Int32 × Int32) ⊕ Int32) :=
  some (.inl (v3, (v4 + 1)))
def fX0_howManyWith_B9 (a_codes : Nat → Int32) (a_sizes : Nat → Int32) (v1 : Int32) (v2 : Int32) (x : (Int32 × Int32)) : Option ((Int32 × Int32) ⊕ Int32) :=
  (fX0_lastOf v1).bind fun r1 =>
  if r1 < x.2 then
    some (.inr x.1)
  else
    (fX0_withRightChild a_codes a_sizes x.2).bind fun r2 =>
    if r2 = v2 then
      fX0_howManyWith_J32 a_codes a_sizes v1 v2 (x.1 + 1) x.2
    else
      fX0_howManyWith_J32 a_codes a_sizes v1 v2 x.1 x.2
def fX0_howManyWith (a_codes : Nat → Int32) (a_sizes : Nat → Int32) (v1 : Int32) (v2 : Int32) : Option Int32 :=
  (fX0_firstOf v1).bind fun r1 =>
  (it (fX0_howManyWith_B9 a_codes a_sizes v1 v2) FU ((0 : Int32), r1)).bind fun y2 =>
  some y2
def fX0_sideBySide (a_codes : Nat → Int32) (a_sizes : Nat → Int32) (v1 : Int32) (v2 : Int32) (v3 : Int32) : Option Int32 :=
  (fX0_sizeOf a_sizes v2).bind fun r1 =>
  (fX0_sizeOf a_sizes v3).bind fun r2 =>
  (fX0_sizeOf a_sizes v3).bind fun r3 =>
  (fX0_codeOf a_codes v3).bind fun r4 =>
  (fX0_find a_codes (r1 + r2) ((v1 <<< (((4 : Int32) * r3) &&& 31)) ||| r4)).bind fun r5 =>
  some r5
def fX0_setOver (a_codes : Nat → Int32) (a_sizes : Nat → Int32) (v1 : Int32) (v2 : Int32) : Option Int32 :=
  (fX0_codeOf a_codes v1).bind fun r1 =>
  (fX0_sideBySide a_codes a_sizes r1 v1 v2).bind fun r2 =>
  some r2
def fX0_setUnder_J51 (a_codes : Nat → Int32) (a_sizes : Nat → Int32) (v1 : Int32) (v2 : Int32) (v3 : Int32) (v4 : Int32) (v5 : Int32)  : Option ((Int32 × Int32) ⊕ Int32) :=
  some (.inl (v4, (v5 + 1)))
def fX0_setUnder_B16 (a_codes : Nat → Int32) (a_sizes : Nat → Int32) (v1 : Int32) (v2 : Int32) (v3 : Int32) (x : (Int32 × Int32)) : Option ((Int32 × Int32) ⊕ Int32) :=
  if v3 ≤ x.2 then
    some (.inr x.1)
  else
    (fX0_end a_codes a_sizes v1 x.2).bind fun r1 =>
    if r1 = (v3 - (1 : Int32)) then
      (fX0_sizeOf a_sizes v2).bind fun r2 =>
      (fX0_digitAt r2 v3 x.2).bind fun r3 =>
      fX0_setUnder_J51 a_codes a_sizes v1 v2 v3 (x.1 + r3) x.2
    else
      fX0_setUnder_J51 a_codes a_sizes v1 v2 v3 x.1 x.2
def fX0_setUnder (a_codes : Nat → Int32) (a_sizes : Nat → Int32) (v1 : Int32) (v2 : Int32) : Option Int32 :=
  (fX0_sizeOf a_sizes v1).bind fun r1 =>
  (fX0_codeOf a_codes v1).bind fun r2 =>
  (it (fX0_setUnder_B16 a_codes a_sizes v1 v2 r1) FU (r2, (0 : Int32))).bind fun y3 =>
  (fX0_sideBySide a_codes a_sizes y3 v1 v2).bind fun r4 =>
  some r4
def fX0_turnedAsTold (a_codes : Nat → Int32) (a_sizes : Nat → Int32) (v1 : Int32) (v2 : Int64) : Option Int32 :=
  (fX0_sizeOf a_sizes v1).bind fun r1 =>
  if 0 ≤ (lg_cmp v2 (r1.toInt64)) then
    some (0 : Int32)
  else
    if 0 ≤ (lg_cmp v2 (((0 - r1)).toInt64)) then
      if (lg_cmp v2 (0 : Int64)) < 0 then
        (fX0_turnedBack a_codes a_sizes v1 ((((-1 : Int64) - v2)).toInt32)).bind fun r2 =>
        some r2
      else
        (fX0_turnedUp a_codes a_sizes v1 ((v2).toInt32)).bind fun r3 =>
        some r3
    else
      some (0 : Int32)
def fX0_textLength (a_sizes : Nat → Int32) (v1 : Int32) : Option Int32 :=
  (fX0_sizeOf a_sizes v1).bind fun r1 =>
  some (((3 : Int32) * r1) + (1 : Int32))
def fX0_opening_J32 (a_codes : Nat → Int32) (a_sizes : Nat → Int32) (v1 : Int32) (v2 : Int32) (v3 : Int32) (v4 : Int32)  : Option ((Int32 × Int32) ⊕ Int32) :=
  some (.inl (v3, (v4 + 1)))
def fX0_opening_B5 (a_codes : Nat → Int32) (a_sizes : Nat → Int32) (v1 : Int32) (v2 : Int32) (x : (Int32 × Int32)) : Option ((Int32 × Int32) ⊕ Int32) :=
  (fX0_sizeOf a_sizes v1).bind fun r1 =>
  if r1 ≤ x.2 then
    some (.inr x.1)
  else
    (fX0_leftSize a_codes a_sizes v1 x.2).bind fun r2 =>
    if (x.2 - r2) = v2 then
      fX0_opening_J32 a_codes a_sizes v1 v2 (x.1 + 1) x.2
    else
      fX0_opening_J32 a_codes a_sizes v1 v2 x.1 x.2
def fX0_opening (a_codes : Nat → Int32) (a_sizes : Nat → Int32) (v1 : Int32) (v2 : Int32) : Option Int32 :=
  (it (fX0_opening_B5 a_codes a_sizes v1 v2) FU ((0 : Int32), v2)).bind fun y1 =>
  some y1
def fX0_closing_J27 (a_codes : Nat → Int32) (a_sizes : Nat → Int32) (v1 : Int32) (v2 : Int32) (v3 : Int32) (v4 : Int32)  : Option ((Int32 × Int32) ⊕ Int32) :=
  some (.inl (v3, (v4 + 1)))
def fX0_closing_B5 (a_codes : Nat → Int32) (a_sizes : Nat → Int32) (v1 : Int32) (v2 : Int32) (x : (Int32 × Int32)) : Option ((Int32 × Int32) ⊕ Int32) :=
  if v2 ≤ x.2 then
    some (.inr x.1)
  else
    (fX0_end a_codes a_sizes v1 x.2).bind fun r1 =>
    if (r1 + (1 : Int32)) = v2 then
      fX0_closing_J27 a_codes a_sizes v1 v2 (x.1 + 1) x.2
    else
      fX0_closing_J27 a_codes a_sizes v1 v2 x.1 x.2
def fX0_closing (a_codes : Nat → Int32) (a_sizes : Nat → Int32) (v1 : Int32) (v2 : Int32) : Option Int32 :=
  (it (fX0_closing_B5 a_codes a_sizes v1 v2) FU ((0 : Int32), (0 : Int32))).bind fun y1 =>
  some y1
def fX0_textByte_B11 (a_codes : Nat → Int32) (a_sizes : Nat → Int32) (v1 : Int32) (v2 : Int32) (x : (Int32 × Int32)) : Option ((Int32 × Int32) ⊕ (Unit ⊕ Int32)) :=
  (fX0_sizeOf a_sizes v1).bind fun r1 =>
  if r1 < x.2 then
    some (.inr (.inl ()))
  else
    (fX0_opening a_codes a_sizes v1 x.2).bind fun r2 =>
    if (x.1 + r2) ≤ v2 then
      if v2 = (x.1 + r2) then
        some (.inr (.inr (46 : Int32)))
      else
        (fX0_closing a_codes a_sizes v1 x.2).bind fun r3 =>
        if ((x.1 + r2) + ((1 : Int32) + r3)) ≤ v2 then
          some (.inl (((x.1 + r2) + ((1 : Int32) + r3)), (x.2 + 1)))
        else
          some (.inr (.inr (41 : Int32)))
    else
      some (.inr (.inr (40 : Int32)))
def fX0_textByte (a_codes : Nat → Int32) (a_sizes : Nat → Int32) (v1 : Int32) (v2 : Int32) : Option Int32 :=
  if 0 ≤ v2 then
    (it (fX0_textByte_B11 a_codes a_sizes v1 v2) FU ((0 : Int32), (0 : Int32))).bind (Sum.elim (fun y1 =>
      some (-1 : Int32)) some)
  else
    some (-1 : Int32)
def fX0_growAll_B57  (v2 : Int32) (v3 : Int32) (v4 : Int32) (v6 : Int32) (v7 : Int32) (x : (Int32 × Int32 × (Nat → Int32) × (Nat → Int32))) : Option ((Int32 × Int32 × (Nat → Int32) × (Nat → Int32)) ⊕ (Int32 × (Nat → Int32) × (Nat → Int32))) :=
  (rd 9 fiF (v4 + (1 : Int32))).bind fun t1 =>
  if t1 ≤ x.2.1 then
    some (.inr (x.1, x.2.2.1, x.2.2.2))
  else
    if (626 : Int32) ≤ x.1 then
      some (.inr (x.1, x.2.2.1, x.2.2.2))
    else
      (rd 626 x.2.2.1 x.2.1).bind fun t2 =>
      (wr 626 x.2.2.1 x.1 (v7 ||| t2)).bind fun u3 =>
      (wr 626 x.2.2.2 x.1 v2).bind fun u4 =>
      some (.inl ((x.1 + 1), (x.2.1 + 1), u3, u4))
def fX0_growAll_B17  (v2 : Int32) (v3 : Int32) (v4 : Int32) (x : (Int32 × Int32 × (Nat → Int32) × (Nat → Int32))) : Option ((Int32 × Int32 × (Nat → Int32) × (Nat → Int32)) ⊕ (Int32 × (Nat → Int32) × (Nat → Int32))) :=
  (rd 9 fiF (v3 + (1 : Int32))).bind fun t1 =>
  if t1 ≤ x.2.1 then
    some (.inr (x.1, x.2.2.1, x.2.2.2))
  else
    (rd 626 x.2.2.1 x.2.1).bind fun t2 =>
    (rd 9 fiF v4).bind fun t3 =>
    (it (fX0_growAll_B57 v2 v3 v4 x.2.1 (((v3 <<< (((4 : Int32) * v3) &&& 31)) ||| t2) <<< (((4 : Int32) * v4) &&& 31))) FU (x.1, t3, x.2.2.1, x.2.2.2)).bind fun y4 =>
    some (.inl (y4.1, (x.2.1 + 1), y4.2.1, y4.2.2))
def fX0_growAll (a_codes : Nat → Int32) (a_sizes : Nat → Int32) (v1 : Int32) (v2 : Int32) (v3 : Int32) : Option (Int32 × (Nat → Int32) × (Nat → Int32)) :=
  (rd 9 fiF v3).bind fun t1 =>
  (it (fX0_growAll_B17 v2 v3 ((v2 - (1 : Int32)) - v3)) FU (v1, t1, a_codes, a_sizes)).bind fun y2 =>
  some (y2.1, y2.2.1, y2.2.2)
def fX1_isList  (v0 : Int32) : Option Int32 :=
  if v0 < 0 then
    some (0 : Int32)
  else
    if (3 : Int32) ≤ v0 then
      some (0 : Int32)
    else
      some (1 : Int32)
def fX1_renew (a_lengths : Nat → Int32) (lo : Nat → Nat → Int64) (v1 : Int32) (v2 : Int32) : Option ((Nat → Int32) × (Nat → Nat → Int64)) :=
  (fX1_isList v1).bind fun r1 =>
  if r1 = 0 then
    some (a_lengths, lo)
  else
    if v2 < (-1 : Int32) then
      some (a_lengths, lo)
    else
      if (20 : Int32) < v2 then
        some (a_lengths, lo)
      else
        (ixo 3 v1).bind fun t2 =>
        (wr 3 a_lengths v1 v2).bind fun u3 =>
        some (u3, (pu lo [(t2, fillF 20 (0 : Int64) (lo t2))]))
def fX1_lengthOf (a_lengths : Nat → Int32) (v1 : Int32) : Option Int32 :=
  (fX1_isList v1).bind fun r1 =>
  if r1 = 0 then
    some (-1 : Int32)
  else
    (rd 3 a_lengths v1).bind fun t2 =>
    some t2
def fX1_isThere (a_lengths : Nat → Int32) (v1 : Int32) : Option Int32 :=
  (fX1_lengthOf a_lengths v1).bind fun r1 =>
  if r1 = (-1 : Int32) then
    some (0 : Int32)
  else
    some (1 : Int32)
def fX1_isPlace (a_lengths : Nat → Int32) (v1 : Int32) (v2 : Int32) : Option Int32 :=
  if v2 < 0 then
    some (0 : Int32)
  else
    (fX1_lengthOf a_lengths v1).bind fun r1 =>
    if r1 ≤ v2 then
      some (0 : Int32)
    else
      some (1 : Int32)
def fX1_store (a_lengths : Nat → Int32) (lo : Nat → Nat → Int64) (v1 : Int32) (v2 : Int32) (v3 : Int64) : Option (Nat → Nat → Int64) :=
  (fX1_isPlace a_lengths v1 v2).bind fun r1 =>
  if r1 = 0 then
    some lo
  else
    (ixo 3 v1).bind fun t2 =>
    (wrL 20 (lo t2) v2 v3).bind fun u3 =>
    some (pu lo [(t2, u3)])
def fX1_valueAt (a_lengths : Nat → Int32) (lo : Nat → Nat → Int64) (v1 : Int32) (v2 : Int32) : Option Int64 :=
  (fX1_isPlace a_lengths v1 v2).bind fun r1 =>
  if r1 = 0 then
    some (-9223372036854775808 : Int64)
  else
    (ixo 3 v1).bind fun t2 =>
    (rd 20 (lo t2) v2).bind fun t3 =>
    some t3
def fX1_howManyThere_J34 (a_lengths : Nat → Int32) (v1 : Int32) (v3 : Int32) (v4 : Int32)  : Option ((Int32 × Int32) ⊕ Int32) :=
  some (.inl (v1, (v4 + 1)))
def fX1_howManyThere_B13 (a_lengths : Nat → Int32) (v3 : Int32) (x : (Int32 × Int32)) : Option ((Int32 × Int32) ⊕ Int32) :=
  if v3 ≤ x.2 then
    some (.inr x.1)
  else
    (rd 3 a_lengths x.2).bind fun t1 =>
    if t1 = (-1 : Int32) then
      fX1_howManyThere_J34 a_lengths x.1 v3 x.2
    else
      fX1_howManyThere_J34 a_lengths (x.1 + 1) v3 x.2
def fX1_howManyThere (a_lengths : Nat → Int32)  : Option Int32 :=
  (it (fX1_howManyThere_B13 a_lengths (3 : Int32)) FU ((0 : Int32), (0 : Int32))).bind fun y1 =>
  some y1
def fX2_noMore  (v0 : Int32) (v1 : Int32) : Option Int32 :=
  if (((v1 ||| (143165576 : Int32)) - v0) &&& (143165576 : Int32)) = (143165576 : Int32) then
    some (1 : Int32)
  else
    some (0 : Int32)
def fX2_isBelow (a_codes : Nat → Int32) (v1 : Int32) (v2 : Int32) : Option Int32 :=
  (fX0_codeOf a_codes v1).bind fun r1 =>
  (fX0_codeOf a_codes v2).bind fun r2 =>
  (fX2_noMore r1 r2).bind fun r3 =>
  (zro r3).bind fun z4 =>
  some z4
def fX2_joinOf_B53  (v1 : Int32) (v2 : Int32) (v3 : Int32) (v4 : Int32) (v5 : Int32) (x : (Int32 × Int32)) : Option ((Int32 × Int32) ⊕ Int32) :=
  if v3 ≤ x.2 then
    some (.inr x.1)
  else
    if x.1 < x.2 then
      some (.inr x.1)
    else
      (fX0_digitOf v4 v3 x.2).bind fun r1 =>
      some (.inl ((if x.1 < (x.2 + r1) then (x.2 + r1) else x.1), (x.2 + 1)))
def fX2_joinOf_B17 (a_codes : Nat → Int32) (a_sizes : Nat → Int32) (v1 : Int32) (v2 : Int32) (v3 : Int32) (x : (Int32 × Int32)) : Option ((Int32 × Int32) ⊕ Int32) :=
  if x.2 < 0 then
    some (.inr x.1)
  else
    (fX0_end a_codes a_sizes v1 x.2).bind fun r1 =>
    (fX0_end a_codes a_sizes v2 x.2).bind fun r2 =>
    (it (fX2_joinOf_B53 v1 v2 v3 x.1 x.2) FU ((if r1 < r2 then r2 else r1), (x.2 + (1 : Int32)))).bind fun y3 =>
    (fX0_digitAt (y3 - x.2) v3 x.2).bind fun r4 =>
    some (.inl ((x.1 ||| r4), (x.2 + (-1))))
def fX2_joinOf (a_codes : Nat → Int32) (a_sizes : Nat → Int32) (v1 : Int32) (v2 : Int32) : Option Int32 :=
  (fX0_sizeOf a_sizes v1).bind fun r1 =>
  (it (fX2_joinOf_B17 a_codes a_sizes v1 v2 r1) FU ((0 : Int32), (r1 - (1 : Int32)))).bind fun y2 =>
  (fX0_find a_codes r1 y2).bind fun r3 =>
  some r3
def fX2_meetOf_B15 (a_codes : Nat → Int32) (a_sizes : Nat → Int32) (v1 : Int32) (v2 : Int32) (v3 : Int32) (x : (Int32 × Int32)) : Option ((Int32 × Int32) ⊕ Int32) :=
  if v3 ≤ x.2 then
    some (.inr x.1)
  else
    (fX0_rightSize a_codes a_sizes v1 x.2).bind fun r1 =>
    (fX0_rightSize a_codes a_sizes v2 x.2).bind fun r2 =>
    (fX0_digitAt (if r2 < r1 then r2 else r1) v3 x.2).bind fun r3 =>
    some (.inl ((x.1 ||| r3), (x.2 + 1)))
def fX2_meetOf (a_codes : Nat → Int32) (a_sizes : Nat → Int32) (v1 : Int32) (v2 : Int32) : Option Int32 :=
  (fX0_sizeOf a_sizes v1).bind fun r1 =>
  (it (fX2_meetOf_B15 a_codes a_sizes v1 v2 r1) FU ((0 : Int32), (0 : Int32))).bind fun y2 =>
  (fX0_find a_codes r1 y2).bind fun r3 =>
  some r3
def fX2_meetOrJoin (a_codes : Nat → Int32) (a_sizes : Nat → Int32) (v1 : Int32) (v2 : Int32) (v3 : Int32) : Option Int32 :=
  if v3 = 0 then
    (fX2_meetOf a_codes a_sizes v1 v2).bind fun r1 =>
    some r1
  else
    (fX2_joinOf a_codes a_sizes v1 v2).bind fun r2 =>
    some r2
def fX2_isWithin  (v0 : Int32) (v1 : Int32) (v2 : Int32) : Option Int32 :=
  (fX2_noMore v0 v1).bind fun r1 =>
  if r1 = 0 then
    some (0 : Int32)
  else
    (fX2_noMore v1 v2).bind fun r2 =>
    if r2 = 0 then
      some (0 : Int32)
    else
      some (1 : Int32)
def fX2_howManyBetween_J52 (a_codes : Nat → Int32) (v2 : Int32) (v3 : Int32) (v4 : Int32) (v5 : Int32) (v6 : Int32)  : Option ((Int32 × Int32) ⊕ Int32) :=
  some (.inl (v5, (v6 + 1)))
def fX2_howManyBetween_B25 (a_codes : Nat → Int32) (v2 : Int32) (v3 : Int32) (v4 : Int32) (x : (Int32 × Int32)) : Option ((Int32 × Int32) ⊕ Int32) :=
  if v2 < x.2 then
    some (.inr x.1)
  else
    (fX0_codeOf a_codes x.2).bind fun r1 =>
    (fX2_isWithin v3 r1 v4).bind fun r2 =>
    if r2 = 0 then
      fX2_howManyBetween_J52 a_codes v2 v3 v4 x.1 x.2
    else
      fX2_howManyBetween_J52 a_codes v2 v3 v4 (x.1 + 1) x.2
def fX2_howManyBetween (a_codes : Nat → Int32) (v1 : Int32) (v2 : Int32) : Option Int32 :=
  (fX0_codeOf a_codes v1).bind fun r1 =>
  (fX0_codeOf a_codes v2).bind fun r2 =>
  (it (fX2_howManyBetween_B25 a_codes v2 r1 r2) FU ((0 : Int32), v1)).bind fun y3 =>
  some y3
def fX2_nthBetween_J63 (a_codes : Nat → Int32) (v2 : Int32) (v3 : Int32) (v4 : Int32) (v5 : Int32) (v6 : Int32) (v7 : Int32)  : Option ((Int32 × Int32) ⊕ (Unit ⊕ Int32)) :=
  some (.inl (v6, (v7 + 1)))
def fX2_nthBetween_B26 (a_codes : Nat → Int32) (v2 : Int32) (v3 : Int32) (v4 : Int32) (v5 : Int32) (x : (Int32 × Int32)) : Option ((Int32 × Int32) ⊕ (Unit ⊕ Int32)) :=
  if v2 < x.2 then
    some (.inr (.inl ()))
  else
    (fX0_codeOf a_codes x.2).bind fun r1 =>
    (fX2_isWithin v4 r1 v5).bind fun r2 =>
    if r2 = 0 then
      fX2_nthBetween_J63 a_codes v2 v3 v4 v5 x.1 x.2
    else
      if x.1 = v3 then
        some (.inr (.inr x.2))
      else
        fX2_nthBetween_J63 a_codes v2 v3 v4 v5 (x.1 + 1) x.2
def fX2_nthBetween (a_codes : Nat → Int32) (v1 : Int32) (v2 : Int32) (v3 : Int32) : Option Int32 :=
  (fX0_codeOf a_codes v1).bind fun r1 =>
  (fX0_codeOf a_codes v2).bind fun r2 =>
  (it (fX2_nthBetween_B26 a_codes v2 v3 r1 r2) FU ((0 : Int32), v1)).bind (Sum.elim (fun y3 =>
    some (0 : Int32)) some)
def fX2_sumBelow_J43 (a_markedCodes : Nat → Int32) (a_marks : Nat → Int32) (v1 : Int32) (v2 : Int32) (v3 : Int32) (v4 : Int32)  : Option ((Int32 × Int32) ⊕ Int32) :=
  some (.inl (v3, (v4 + 1)))
def fX2_sumBelow_B5 (a_markedCodes : Nat → Int32) (a_marks : Nat → Int32) (v1 : Int32) (v2 : Int32) (x : (Int32 × Int32)) : Option ((Int32 × Int32) ⊕ Int32) :=
  if v2 ≤ x.2 then
    some (.inr x.1)
  else
    if (429 : Int32) ≤ x.2 then
      some (.inr x.1)
    else
      (rd 429 a_markedCodes x.2).bind fun t1 =>
      (fX2_noMore t1 v1).bind fun r2 =>
      if r2 = 0 then
        fX2_sumBelow_J43 a_markedCodes a_marks v1 v2 x.1 x.2
      else
        (rd 429 a_marks x.2).bind fun t3 =>
        fX2_sumBelow_J43 a_markedCodes a_marks v1 v2 (x.1 + t3) x.2
def fX2_sumBelow (a_markedCodes : Nat → Int32) (a_marks : Nat → Int32) (v1 : Int32) (v2 : Int32) : Option Int32 :=
  (it (fX2_sumBelow_B5 a_markedCodes a_marks v1 v2) FU ((0 : Int32), (0 : Int32))).bind fun y1 =>
  some y1
def fX2_markOf_J114 (a_codes : Nat → Int32) (a_markedCodes : Nat → Int32) (a_marks : Nat → Int32) (v1 : Int32) (v2 : Int32) (v3 : Int32) (v4 : Int32) (v5 : Int32) (v6 : Int32) (v7 : Int32)  : Option ((Int32 × Int32 × Int32 × (Nat → Int32) × (Nat → Int32)) ⊕ (Int32 × (Nat → Int32) × (Nat → Int32))) :=
  some (.inl (v5, v6, (v7 + 1), a_markedCodes, a_marks))
def fX2_markOf_J78 (a_codes : Nat → Int32) (a_markedCodes : Nat → Int32) (a_marks : Nat → Int32) (v1 : Int32) (v2 : Int32) (v3 : Int32) (v4 : Int32) (v5 : Int32) (v7 : Int32) (v8 : Int32) (k0 : Int32) : Option ((Int32 × Int32 × Int32 × (Nat → Int32) × (Nat → Int32)) ⊕ (Int32 × (Nat → Int32) × (Nat → Int32))) :=
  if k0 = 0 then
    fX2_markOf_J114 a_codes a_markedCodes a_marks v1 v2 v3 v4 v5 k0 v7
  else
    if (429 : Int32) ≤ v5 then
      fX2_markOf_J114 a_codes a_markedCodes a_marks v1 v2 v3 v4 v5 k0 v7
    else
      (wr 429 a_markedCodes v5 v8).bind fun u1 =>
      (wr 429 a_marks v5 k0).bind fun u2 =>
      fX2_markOf_J114 a_codes u1 u2 v1 v2 v3 v4 (v5 + 1) k0 v7
def fX2_markOf_B28 (a_codes : Nat → Int32) (v1 : Int32) (v2 : Int32) (v3 : Int32) (v4 : Int32) (x : (Int32 × Int32 × Int32 × (Nat → Int32) × (Nat → Int32))) : Option ((Int32 × Int32 × Int32 × (Nat → Int32) × (Nat → Int32)) ⊕ (Int32 × (Nat → Int32) × (Nat → Int32))) :=
  if v2 < x.2.2.1 then
    some (.inr (x.2.1, x.2.2.2.1, x.2.2.2.2))
  else
    (fX0_codeOf a_codes x.2.2.1).bind fun r1 =>
    (fX2_isWithin v3 r1 v4).bind fun r2 =>
    if r2 = 0 then
      fX2_markOf_J114 a_codes x.2.2.2.1 x.2.2.2.2 v1 v2 v3 v4 x.1 x.2.1 x.2.2.1
    else
      if x.2.2.1 = v1 then
        fX2_markOf_J78 a_codes x.2.2.2.1 x.2.2.2.2 v1 v2 v3 v4 x.1 x.2.2.1 r1 (1 : Int32)
      else
        (fX2_sumBelow x.2.2.2.1 x.2.2.2.2 r1 x.1).bind fun r3 =>
        fX2_markOf_J78 a_codes x.2.2.2.1 x.2.2.2.2 v1 v2 v3 v4 x.1 x.2.2.1 r1 (0 - r3)
def fX2_markOf (a_codes : Nat → Int32) (a_markedCodes : Nat → Int32) (a_marks : Nat → Int32) (v1 : Int32) (v2 : Int32) : Option (Int32 × (Nat → Int32) × (Nat → Int32)) :=
  (fX0_codeOf a_codes v1).bind fun r1 =>
  (fX0_codeOf a_codes v2).bind fun r2 =>
  (it (fX2_markOf_B28 a_codes v1 v2 r1 r2) FU ((0 : Int32), (0 : Int32), v1, a_markedCodes, a_marks)).bind fun y3 =>
  some (y3.1, y3.2.1, y3.2.2)
def fX2_howManyPairs_J68 (a_codes : Nat → Int32) (v2 : Int32) (v3 : Int32) (v4 : Int32) (v5 : Int32) (v6 : Int32)  : Option ((Int32 × Int32) ⊕ Int32) :=
  some (.inl (v3, (v6 + 1)))
def fX2_howManyPairs_B42 (a_codes : Nat → Int32) (v2 : Int32) (v4 : Int32) (v5 : Int32) (x : (Int32 × Int32)) : Option ((Int32 × Int32) ⊕ Int32) :=
  if v2 < x.2 then
    some (.inr x.1)
  else
    (fX0_codeOf a_codes x.2).bind fun r1 =>
    (fX2_noMore v5 r1).bind fun r2 =>
    if r2 = 0 then
      fX2_howManyPairs_J68 a_codes v2 x.1 v4 v5 x.2
    else
      fX2_howManyPairs_J68 a_codes v2 (x.1 + 1) v4 v5 x.2
def fX2_howManyPairs_B21 (a_codes : Nat → Int32) (v2 : Int32) (x : (Int32 × Int32)) : Option ((Int32 × Int32) ⊕ Int32) :=
  if v2 < x.2 then
    some (.inr x.1)
  else
    (fX0_codeOf a_codes x.2).bind fun r1 =>
    (it (fX2_howManyPairs_B42 a_codes v2 x.2 r1) FU (x.1, x.2)).bind fun y2 =>
    some (.inl (y2, (x.2 + 1)))
def fX2_howManyPairs (a_codes : Nat → Int32) (v1 : Int32) : Option Int32 :=
  (fX0_lastOf v1).bind fun r1 =>
  (fX0_firstOf v1).bind fun r2 =>
  (it (fX2_howManyPairs_B21 a_codes r1) FU ((0 : Int32), r2)).bind fun y3 =>
  some y3
def fX3_clear (s_held : Int32)  : Option Int32 :=
  some (0 : Int32)
def fX3_add_J30 (a_trees : Nat → Int32) (s_held : Int32) (v1 : Int32)  : Option ((Nat → Int32) × Int32) :=
  (wr 10 a_trees s_held v1).bind fun u1 =>
  some (u1, (s_held + (1 : Int32)))
def fX3_add (a_trees : Nat → Int32) (s_held : Int32) (v1 : Int32) : Option ((Nat → Int32) × Int32) :=
  if s_held < (10 : Int32) then
    fX3_add_J30 a_trees s_held v1
  else
    (cpo 10 10 a_trees a_trees (1 : Int32) (0 : Int32) (9 : Int32)).bind fun u1 =>
    fX3_add_J30 u1 (9 : Int32) v1
def fX3_takeLatest (a_trees : Nat → Int32) (s_held : Int32)  : Option (Int32 × Int32) :=
  if 0 < s_held then
    (rd 10 a_trees (s_held - (1 : Int32))).bind fun t1 =>
    some (t1, (s_held - (1 : Int32)))
  else
    some ((0 : Int32), s_held)
def fX3_held (s_held : Int32)  : Option Int32 :=
  some s_held
def fX4_append (a_bytes : Nat → Int32) (s_length : Int32) (v1 : Int32) : Option (Int32 × (Nat → Int32) × Int32) :=
  if s_length < (60 : Int32) then
    (wr 60 a_bytes s_length v1).bind fun u1 =>
    some ((1 : Int32), u1, (s_length + (1 : Int32)))
  else
    some ((0 : Int32), a_bytes, s_length)
def fX4_length (s_length : Int32)  : Option Int32 :=
  some s_length
def fX4_clear (s_length : Int32)  : Option Int32 :=
  some (0 : Int32)
def fX4_awaitedNow (a_awaited : Nat → Int32) (s_opn : Int32)  : Option Int32 :=
  if s_opn ≤ 0 then
    some (2 : Int32)
  else
    if (7 : Int32) < s_opn then
      some (2 : Int32)
    else
      (rd 7 a_awaited (s_opn - (1 : Int32))).bind fun t1 =>
      some t1
def fX4_endSubtree (a_awaited : Nat → Int32) (a_openNodes : Nat → Int32) (s_opn : Int32) (s_numbered : Int32)  : Option ((Nat → Int32) × (Nat → Int32) × Int32) :=
  if s_opn ≤ 0 then
    some (a_awaited, a_openNodes, s_numbered)
  else
    if s_opn ≤ (7 : Int32) then
      (rd 7 a_awaited (s_opn - (1 : Int32))).bind fun t1 =>
      if t1 = 0 then
        (wr 7 a_awaited (s_opn - (1 : Int32)) (1 : Int32)).bind fun u3 =>
        (wr 7 a_openNodes (s_opn - (1 : Int32)) s_numbered).bind fun u4 =>
        some (u3, u4, (s_numbered + (1 : Int32)))
      else
        (wr 7 a_awaited (s_opn - (1 : Int32)) (2 : Int32)).bind fun u2 =>
        some (u2, a_openNodes, s_numbered)
    else
      some (a_awaited, a_openNodes, s_numbered)
def fX4_staysNothing (a_awaited : Nat → Int32) (a_openNodes : Nat → Int32) (s_opn : Int32) (s_numbered : Int32)  : Option (Int32 × (Nat → Int32) × (Nat → Int32) × Int32) :=
  (fX4_awaitedNow a_awaited s_opn).bind fun r1 =>
  if r1 = (2 : Int32) then
    some ((0 : Int32), a_awaited, a_openNodes, s_numbered)
  else
    (fX4_endSubtree a_awaited a_openNodes s_opn s_numbered).bind fun r2 =>
    some ((1 : Int32), r2.1, r2.2.1, r2.2.2)
def fX4_closesNode_J77 (a_awaited : Nat → Int32) (a_openNodes : Nat → Int32) (a_rightSizes : Nat → Int32) (s_opn : Int32) (s_numbered : Int32)   : Option (Int32 × (Nat → Int32) × (Nat → Int32) × (Nat → Int32) × Int32 × Int32) :=
  (fX4_endSubtree a_awaited a_openNodes s_opn s_numbered).bind fun r1 =>
  some ((1 : Int32), r1.1, r1.2.1, a_rightSizes, s_opn, r1.2.2)
def fX4_closesNode (a_awaited : Nat → Int32) (a_openNodes : Nat → Int32) (a_rightSizes : Nat → Int32) (s_opn : Int32) (s_numbered : Int32)  : Option (Int32 × (Nat → Int32) × (Nat → Int32) × (Nat → Int32) × Int32 × Int32) :=
  if s_opn ≤ 0 then
    some ((0 : Int32), a_awaited, a_openNodes, a_rightSizes, s_opn, s_numbered)
  else
    if (7 : Int32) < s_opn then
      some ((0 : Int32), a_awaited, a_openNodes, a_rightSizes, s_opn, s_numbered)
    else
      (rd 7 a_awaited (s_opn - (1 : Int32))).bind fun t1 =>
      if t1 = (2 : Int32) then
        (rd 7 a_openNodes (s_opn - (1 : Int32))).bind fun t2 =>
        if t2 < 0 then
          fX4_closesNode_J77 a_awaited a_openNodes a_rightSizes (s_opn - (1 : Int32)) s_numbered
        else
          if (7 : Int32) ≤ t2 then
            fX4_closesNode_J77 a_awaited a_openNodes a_rightSizes (s_opn - (1 : Int32)) s_numbered
          else
            (wr 7 a_rightSizes t2 ((s_numbered - t2) - (1 : Int32))).bind fun u3 =>
            fX4_closesNode_J77 a_awaited a_openNodes u3 (s_opn - (1 : Int32)) s_numbered
      else
        some ((0 : Int32), a_awaited, a_openNodes, a_rightSizes, s_opn, s_numbered)
def fX4_opensNode_J45 (a_awaited : Nat → Int32) (s_opn : Int32) (s_opened : Int32)   : Option (Int32 × (Nat → Int32) × Int32 × Int32) :=
  (wr 7 a_awaited s_opn (0 : Int32)).bind fun u1 =>
  some ((1 : Int32), u1, (s_opn + (1 : Int32)), (s_opened + (1 : Int32)))
def fX4_opensNode_J12 (a_awaited : Nat → Int32) (s_opn : Int32) (s_opened : Int32)  (k0 : Int32) : Option (Int32 × (Nat → Int32) × Int32 × Int32) :=
  if (7 : Int32) ≤ s_opened then
    some ((0 : Int32), a_awaited, s_opn, s_opened)
  else
    if (7 : Int32) ≤ s_opn then
      some ((0 : Int32), a_awaited, s_opn, s_opened)
    else
      if k0 = 0 then
        (fX4_awaitedNow a_awaited s_opn).bind fun r1 =>
        if r1 = (2 : Int32) then
          some ((0 : Int32), a_awaited, s_opn, s_opened)
        else
          fX4_opensNode_J45 a_awaited s_opn s_opened
      else
        fX4_opensNode_J45 a_awaited s_opn s_opened
def fX4_opensNode (a_awaited : Nat → Int32) (s_opn : Int32) (s_opened : Int32)  : Option (Int32 × (Nat → Int32) × Int32 × Int32) :=
  if s_opened = 0 then
    fX4_opensNode_J12 a_awaited s_opn s_opened (1 : Int32)
  else
    fX4_opensNode_J12 a_awaited s_opn s_opened (0 : Int32)
def fX4_accepts (a_awaited : Nat → Int32) (a_openNodes : Nat → Int32) (a_rightSizes : Nat → Int32) (s_opn : Int32) (s_opened : Int32) (s_numbered : Int32) (v1 : Int32) : Option (Int32 × (Nat → Int32) × (Nat → Int32) × (Nat → Int32) × Int32 × Int32 × Int32) :=
  if v1 = 40 then
    (fX4_opensNode a_awaited s_opn s_opened).bind fun r1 =>
    (zro r1.1).bind fun z2 =>
    some (z2, r1.2.1, a_openNodes, a_rightSizes, r1.2.2.1, r1.2.2.2, s_numbered)
  else
    if v1 = 41 then
      (fX4_closesNode a_awaited a_openNodes a_rightSizes s_opn s_numbered).bind fun r3 =>
      (zro r3.1).bind fun z4 =>
      some (z4, r3.2.1, r3.2.2.1, r3.2.2.2.1, r3.2.2.2.2.1, s_opened, r3.2.2.2.2.2)
    else
      if v1 = 46 then
        (fX4_staysNothing a_awaited a_openNodes s_opn s_numbered).bind fun r5 =>
        (zro r5.1).bind fun z6 =>
        some (z6, r5.2.1, r5.2.2.1, a_rightSizes, s_opn, s_opened, r5.2.2.2)
      else
        some ((0 : Int32), a_awaited, a_openNodes, a_rightSizes, s_opn, s_opened, s_numbered)
def fX4_isWhole (s_opn : Int32) (s_opened : Int32)  : Option Int32 :=
  if s_opened ≤ 0 then
    some (0 : Int32)
  else
    if s_opn = 0 then
      some (1 : Int32)
    else
      some (0 : Int32)
def fX4_parse_B17 (a_bytes : Nat → Int32) (s_length : Int32)  (x : (Int32 × (Nat → Int32) × (Nat → Int32) × (Nat → Int32) × Int32 × Int32 × Int32)) : Option ((Int32 × (Nat → Int32) × (Nat → Int32) × (Nat → Int32) × Int32 × Int32 × Int32) ⊕ (((Nat → Int32) × (Nat → Int32) × (Nat → Int32) × Int32 × Int32 × Int32) ⊕ (Int32 × (Nat → Int32) × (Nat → Int32) × (Nat → Int32) × Int32 × Int32 × Int32))) :=
  if s_length ≤ x.1 then
    some (.inr (.inl (x.2.1, x.2.2.1, x.2.2.2.1, x.2.2.2.2.1, x.2.2.2.2.2.1, x.2.2.2.2.2.2)))
  else
    if (60 : Int32) ≤ x.1 then
      some (.inr (.inl (x.2.1, x.2.2.1, x.2.2.2.1, x.2.2.2.2.1, x.2.2.2.2.2.1, x.2.2.2.2.2.2)))
    else
      (rd 60 a_bytes x.1).bind fun t1 =>
      (fX4_accepts x.2.1 x.2.2.1 x.2.2.2.1 x.2.2.2.2.1 x.2.2.2.2.2.1 x.2.2.2.2.2.2 t1).bind fun r2 =>
      if r2.1 = 0 then
        some (.inr (.inr (x.1, r2.2.1, r2.2.2.1, r2.2.2.2.1, r2.2.2.2.2.1, r2.2.2.2.2.2.1, r2.2.2.2.2.2.2)))
      else
        some (.inl ((x.1 + 1), r2.2.1, r2.2.2.1, r2.2.2.2.1, r2.2.2.2.2.1, r2.2.2.2.2.2.1, r2.2.2.2.2.2.2))
def fX4_parse (a_bytes : Nat → Int32) (a_awaited : Nat → Int32) (a_openNodes : Nat → Int32) (a_rightSizes : Nat → Int32) (s_length : Int32) (s_opn : Int32) (s_opened : Int32) (s_numbered : Int32)  : Option (Int32 × (Nat → Int32) × (Nat → Int32) × (Nat → Int32) × Int32 × Int32 × Int32) :=
  (it (fX4_parse_B17 a_bytes s_length) FU ((0 : Int32), a_awaited, a_openNodes, a_rightSizes, (0 : Int32), (0 : Int32), (0 : Int32))).bind (Sum.elim (fun y1 =>
    (fX4_isWhole y1.2.2.2.1 y1.2.2.2.2.1).bind fun r2 =>
    if r2 = 0 then
      some (s_length, y1.1, y1.2.1, y1.2.2.1, y1.2.2.2.1, y1.2.2.2.2.1, y1.2.2.2.2.2)
    else
      some ((-1 : Int32), y1.1, y1.2.1, y1.2.2.1, y1.2.2.2.1, y1.2.2.2.2.1, y1.2.2.2.2.2)) some)
def fX4_parsedNodes (s_numbered : Int32)  : Option Int32 :=
  some s_numbered
def fX4_parsedCode_B4 (a_rightSizes : Nat → Int32) (s_numbered : Int32)  (x : (Int32 × Int32)) : Option ((Int32 × Int32) ⊕ Int32) :=
  if s_numbered ≤ x.2 then
    some (.inr x.1)
  else
    if (7 : Int32) ≤ x.2 then
      some (.inr x.1)
    else
      (rd 7 a_rightSizes x.2).bind fun t1 =>
      (fX0_digitAt t1 s_numbered x.2).bind fun r2 =>
      some (.inl ((x.1 ||| r2), (x.2 + 1)))
def fX4_parsedCode (a_rightSizes : Nat → Int32) (s_numbered : Int32)  : Option Int32 :=
  (it (fX4_parsedCode_B4 a_rightSizes s_numbered) FU ((0 : Int32), (0 : Int32))).bind fun y1 =>
  some y1
def fX5_isTree  (v0 : Int32) : Option Int32 :=
  if v0 ≤ 0 then
    some (0 : Int32)
  else
    if (626 : Int32) ≤ v0 then
      some (0 : Int32)
    else
      some (1 : Int32)
def fX5_turnPlace  (v0 : Int32) (v1 : Int32) : Option Int32 :=
  some ((v0 * (7 : Int32)) + v1)
def fX5_learn_J88 (a_codes : Nat → Int32) (a_sizes : Nat → Int32) (a_ups : Nat → Int32) (a_backs : Nat → Int32) (v1 : Int32) (v2 : Int32) (v3 : Int32)  : Option ((Int32 × (Nat → Int32) × (Nat → Int32)) ⊕ ((Nat → Int32) × (Nat → Int32))) :=
  some (.inl ((v3 + 1), a_ups, a_backs))
def fX5_learn_B40 (a_codes : Nat → Int32) (a_sizes : Nat → Int32) (v1 : Int32) (v2 : Int32) (x : (Int32 × (Nat → Int32) × (Nat → Int32))) : Option ((Int32 × (Nat → Int32) × (Nat → Int32)) ⊕ ((Nat → Int32) × (Nat → Int32))) :=
  if v1 ≤ x.1 then
    some (.inr (x.2.1, x.2.2))
  else
    (fX0_turnedUp a_codes a_sizes v2 x.1).bind fun r1 =>
    (fX5_isTree r1).bind fun r2 =>
    if r2 = 0 then
      fX5_learn_J88 a_codes a_sizes x.2.1 x.2.2 v1 v2 x.1
    else
      (fX5_turnPlace v2 x.1).bind fun r3 =>
      (wr 4382 x.2.1 r3 r1).bind fun u4 =>
      (fX5_turnPlace r1 x.1).bind fun r5 =>
      (wr 4382 x.2.2 r5 v2).bind fun u6 =>
      fX5_learn_J88 a_codes a_sizes u4 u6 v1 v2 x.1
def fX5_learn_B26 (a_codes : Nat → Int32) (a_sizes : Nat → Int32) (v1 : Int32) (x : (Int32 × (Nat → Int32) × (Nat → Int32))) : Option ((Int32 × (Nat → Int32) × (Nat → Int32)) ⊕ ((Nat → Int32) × (Nat → Int32))) :=
  (fX0_lastOf v1).bind fun r1 =>
  if r1 < x.1 then
    some (.inr (x.2.1, x.2.2))
  else
    (it (fX5_learn_B40 a_codes a_sizes v1 x.1) FU ((0 : Int32), x.2.1, x.2.2)).bind fun y2 =>
    some (.inl ((x.1 + 1), y2.1, y2.2))
def fX5_learn (a_codes : Nat → Int32) (a_sizes : Nat → Int32) (a_ups : Nat → Int32) (a_backs : Nat → Int32) (a_learned : Nat → Int32) (v1 : Int32) : Option ((Nat → Int32) × (Nat → Int32) × (Nat → Int32)) :=
  (fX0_isSize v1).bind fun r1 =>
  if r1 = 0 then
    some (a_ups, a_backs, a_learned)
  else
    (rd 8 a_learned v1).bind fun t2 =>
    if t2 = 0 then
      (fX0_firstOf v1).bind fun r3 =>
      (it (fX5_learn_B26 a_codes a_sizes v1) FU (r3, a_ups, a_backs)).bind fun y4 =>
      (wr 8 a_learned v1 (1 : Int32)).bind fun u5 =>
      some (y4.1, y4.2, u5)
    else
      some (a_ups, a_backs, a_learned)
def fX5_reach (a_turns : Nat → Int32) (a_queue : Nat → Int32) (s_queued : Int32) (v1 : Int32) (v2 : Int32) : Option ((Nat → Int32) × (Nat → Int32) × Int32) :=
  (fX5_isTree v1).bind fun r1 =>
  if r1 = 0 then
    some (a_turns, a_queue, s_queued)
  else
    (rd 626 a_turns v1).bind fun t2 =>
    if t2 = (-1 : Int32) then
      if (429 : Int32) ≤ s_queued then
        some (a_turns, a_queue, s_queued)
      else
        (wr 626 a_turns v1 v2).bind fun u3 =>
        (wr 429 a_queue s_queued v1).bind fun u4 =>
        some (u3, u4, (s_queued + (1 : Int32)))
    else
      some (a_turns, a_queue, s_queued)
def fX5_measure_B77 (a_ups : Nat → Int32) (a_backs : Nat → Int32) (v1 : Int32) (v2 : Int32) (v3 : Int32) (v4 : Int32) (x : (Int32 × (Nat → Int32) × (Nat → Int32) × Int32)) : Option ((Int32 × (Nat → Int32) × (Nat → Int32) × Int32) ⊕ ((Nat → Int32) × (Nat → Int32) × Int32)) :=
  if v2 ≤ x.1 then
    some (.inr (x.2.1, x.2.2.1, x.2.2.2))
  else
    (fX5_turnPlace v4 x.1).bind fun r1 =>
    (rd 4382 a_ups r1).bind fun t2 =>
    (rd 626 x.2.1 v4).bind fun t3 =>
    (fX5_reach x.2.1 x.2.2.1 x.2.2.2 t2 (t3 + (1 : Int32))).bind fun r4 =>
    (fX5_turnPlace v4 x.1).bind fun r5 =>
    (rd 4382 a_backs r5).bind fun t6 =>
    (rd 626 r4.1 v4).bind fun t7 =>
    (fX5_reach r4.1 r4.2.1 r4.2.2 t6 (t7 + (1 : Int32))).bind fun r8 =>
    some (.inl ((x.1 + 1), r8.1, r8.2.1, r8.2.2))
def fX5_measure_B51 (a_ups : Nat → Int32) (a_backs : Nat → Int32) (v1 : Int32) (v2 : Int32) (x : (Int32 × (Nat → Int32) × (Nat → Int32) × Int32)) : Option ((Int32 × (Nat → Int32) × (Nat → Int32) × Int32) ⊕ ((Nat → Int32) × (Nat → Int32) × Int32)) :=
  if x.2.2.2 ≤ x.1 then
    some (.inr (x.2.1, x.2.2.1, x.2.2.2))
  else
    if (429 : Int32) ≤ x.1 then
      some (.inr (x.2.1, x.2.2.1, x.2.2.2))
    else
      (rd 429 x.2.2.1 x.1).bind fun t1 =>
      (it (fX5_measure_B77 a_ups a_backs v1 v2 x.1 t1) FU ((0 : Int32), x.2.1, x.2.2.1, x.2.2.2)).bind fun y2 =>
      some (.inl ((x.1 + 1), y2.1, y2.2.1, y2.2.2))
def fX5_measure (a_codes : Nat → Int32) (a_sizes : Nat → Int32) (a_ups : Nat → Int32) (a_backs : Nat → Int32) (a_learned : Nat → Int32) (a_turns : Nat → Int32) (a_queue : Nat → Int32) (s_queued : Int32) (s_measured : Int32) (v1 : Int32) : Option ((Nat → Int32) × (Nat → Int32) × (Nat → Int32) × (Nat → Int32) × (Nat → Int32) × Int32 × Int32) :=
  if v1 = s_measured then
    some (a_ups, a_backs, a_learned, a_turns, a_queue, s_queued, s_measured)
  else
    (fX5_isTree v1).bind fun r1 =>
    if r1 = 0 then
      some (a_ups, a_backs, a_learned, a_turns, a_queue, s_queued, s_measured)
    else
      (fX0_sizeOf a_sizes v1).bind fun r2 =>
      (fX5_learn a_codes a_sizes a_ups a_backs a_learned r2).bind fun r3 =>
      (fX5_reach (fillF 626 (-1 : Int32) a_turns) a_queue (0 : Int32) v1 (0 : Int32)).bind fun r4 =>
      (it (fX5_measure_B51 r3.1 r3.2.1 v1 r2) FU ((0 : Int32), r4.1, r4.2.1, r4.2.2)).bind fun y5 =>
      some (r3.1, r3.2.1, r3.2.2, y5.1, y5.2.1, y5.2.2, v1)
def fX5_turnsFrom (a_turns : Nat → Int32) (v1 : Int32) : Option Int32 :=
  (fX5_isTree v1).bind fun r1 =>
  if r1 = 0 then
    some (-1 : Int32)
  else
    (rd 626 a_turns v1).bind fun t2 =>
    some t2
def fX5_firstTurn_B40 (a_ups : Nat → Int32) (a_turns : Nat → Int32) (v1 : Int32) (v2 : Int32) (v3 : Int32) (x : Int32) : Option (Int32 ⊕ (Unit ⊕ Int32)) :=
  if v3 ≤ x then
    some (.inr (.inl ()))
  else
    (fX5_turnPlace v1 x).bind fun r1 =>
    (rd 4382 a_ups r1).bind fun t2 =>
    (fX5_turnsFrom a_turns t2).bind fun r3 =>
    if r3 = v2 then
      some (.inr (.inr x))
    else
      some (.inl (x + 1))
def fX5_firstTurn_B77 (a_backs : Nat → Int32) (a_turns : Nat → Int32) (v1 : Int32) (v2 : Int32) (v3 : Int32) (x : Int32) : Option (Int32 ⊕ (Unit ⊕ Int32)) :=
  if v3 ≤ x then
    some (.inr (.inl ()))
  else
    (fX5_turnPlace v1 x).bind fun r1 =>
    (rd 4382 a_backs r1).bind fun t2 =>
    (fX5_turnsFrom a_turns t2).bind fun r3 =>
    if r3 = v2 then
      some (.inr (.inr ((-1 : Int32) - x)))
    else
      some (.inl (x + 1))
def fX5_firstTurn (a_sizes : Nat → Int32) (a_ups : Nat → Int32) (a_backs : Nat → Int32) (a_turns : Nat → Int32) (v1 : Int32) : Option Int32 :=
  (fX5_isTree v1).bind fun r1 =>
  if r1 = 0 then
    some (-5 : Int32)
  else
    (rd 626 a_turns v1).bind fun t2 =>
    if 0 < t2 then
      (rd 626 a_turns v1).bind fun t3 =>
      (fX0_sizeOf a_sizes v1).bind fun r4 =>
      (it (fX5_firstTurn_B40 a_ups a_turns v1 (t3 - (1 : Int32)) r4) FU (0 : Int32)).bind (Sum.elim (fun y5 =>
        (it (fX5_firstTurn_B77 a_backs a_turns v1 (t3 - (1 : Int32)) r4) FU (0 : Int32)).bind (Sum.elim (fun y6 =>
          some (-5 : Int32)) some)) some)
    else
      some (-5 : Int32)
def fX5_improve_J41 (a_turnsUp : Nat → Int32) (v1 : Int32) (v2 : Int32)  : Option (Nat → Int32) :=
  (wr 626 a_turnsUp v1 v2).bind fun u1 =>
  some u1
def fX5_improve (a_turnsUp : Nat → Int32) (v1 : Int32) (v2 : Int32) (v3 : Int32) : Option (Nat → Int32) :=
  (fX5_isTree v1).bind fun r1 =>
  if r1 = 0 then
    some a_turnsUp
  else
    (rd 626 a_turnsUp v1).bind fun t2 =>
    if t2 = (-1 : Int32) then
      fX5_improve_J41 a_turnsUp v1 v2
    else
      if v3 = 0 then
        if t2 ≤ v2 then
          some a_turnsUp
        else
          fX5_improve_J41 a_turnsUp v1 v2
      else
        if v2 ≤ t2 then
          some a_turnsUp
        else
          fX5_improve_J41 a_turnsUp v1 v2
def fX5_turnsUpAlone_B60 (a_ups : Nat → Int32) (v2 : Int32) (v3 : Int32) (v4 : Int32) (v5 : Int32) (x : (Int32 × (Nat → Int32))) : Option ((Int32 × (Nat → Int32)) ⊕ (Nat → Int32)) :=
  if v4 ≤ x.1 then
    some (.inr x.2)
  else
    (rd 626 x.2 v5).bind fun t1 =>
    if t1 = (-1 : Int32) then
      some (.inr x.2)
    else
      (fX5_turnPlace v5 x.1).bind fun r2 =>
      (rd 4382 a_ups r2).bind fun t3 =>
      (rd 626 x.2 v5).bind fun t4 =>
      (fX5_improve x.2 t3 (t4 + (1 : Int32)) v3).bind fun r5 =>
      some (.inl ((x.1 + 1), r5))
def fX5_turnsUpAlone_B51 (a_ups : Nat → Int32) (v2 : Int32) (v3 : Int32) (v4 : Int32) (x : (Int32 × (Nat → Int32))) : Option ((Int32 × (Nat → Int32)) ⊕ (Nat → Int32)) :=
  if v2 ≤ x.1 then
    some (.inr x.2)
  else
    (it (fX5_turnsUpAlone_B60 a_ups v2 v3 v4 x.1) FU ((0 : Int32), x.2)).bind fun y1 =>
    some (.inl ((x.1 + 1), y1))
def fX5_turnsUpAlone (a_codes : Nat → Int32) (a_sizes : Nat → Int32) (a_ups : Nat → Int32) (a_backs : Nat → Int32) (a_learned : Nat → Int32) (a_turnsUp : Nat → Int32) (v1 : Int32) (v2 : Int32) (v3 : Int32) : Option (Int32 × (Nat → Int32) × (Nat → Int32) × (Nat → Int32) × (Nat → Int32)) :=
  (fX5_isTree v1).bind fun r1 =>
  if r1 = 0 then
    some ((-5 : Int32), a_ups, a_backs, a_learned, a_turnsUp)
  else
    (fX5_isTree v2).bind fun r2 =>
    if r2 = 0 then
      some ((-5 : Int32), a_ups, a_backs, a_learned, a_turnsUp)
    else
      (fX0_sizeOf a_sizes v1).bind fun r3 =>
      (fX5_learn a_codes a_sizes a_ups a_backs a_learned r3).bind fun r4 =>
      (wr 626 (fillF 626 (-1 : Int32) a_turnsUp) v1 (0 : Int32)).bind fun u5 =>
      (it (fX5_turnsUpAlone_B51 r4.1 v2 v3 r3) FU (v1, u5)).bind fun y6 =>
      (rd 626 y6 v2).bind fun t7 =>
      some (t7, r4.1, r4.2.1, r4.2.2, y6)
def fX5_farthest_B4 (a_turns : Nat → Int32)  (x : (Int32 × Int32)) : Option ((Int32 × Int32) ⊕ Int32) :=
  if (626 : Int32) ≤ x.2 then
    some (.inr x.1)
  else
    (rd 626 a_turns x.2).bind fun t1 =>
    some (.inl ((if x.1 < t1 then t1 else x.1), (x.2 + 1)))
def fX5_farthest (a_turns : Nat → Int32)  : Option Int32 :=
  (it (fX5_farthest_B4 a_turns) FU ((0 : Int32), (0 : Int32))).bind fun y1 =>
  some y1
def fX5_leastFarthest_B7 (a_turns : Nat → Int32) (v1 : Int32) (x : Int32) : Option (Int32 ⊕ (Unit ⊕ Int32)) :=
  if (626 : Int32) ≤ x then
    some (.inr (.inl ()))
  else
    (rd 626 a_turns x).bind fun t1 =>
    if t1 = v1 then
      some (.inr (.inr x))
    else
      some (.inl (x + 1))
def fX5_leastFarthest (a_turns : Nat → Int32)  : Option Int32 :=
  (fX5_farthest a_turns).bind fun r1 =>
  (it (fX5_leastFarthest_B7 a_turns r1) FU (0 : Int32)).bind (Sum.elim (fun y2 =>
    some (0 : Int32)) some)
def fX5_howManyFarthest_J29 (a_turns : Nat → Int32) (v1 : Int32) (v2 : Int32) (v3 : Int32)  : Option ((Int32 × Int32) ⊕ Int32) :=
  some (.inl (v2, (v3 + 1)))
def fX5_howManyFarthest_B9 (a_turns : Nat → Int32) (v1 : Int32) (x : (Int32 × Int32)) : Option ((Int32 × Int32) ⊕ Int32) :=
  if (626 : Int32) ≤ x.2 then
    some (.inr x.1)
  else
    (rd 626 a_turns x.2).bind fun t1 =>
    if t1 = v1 then
      fX5_howManyFarthest_J29 a_turns v1 (x.1 + 1) x.2
    else
      fX5_howManyFarthest_J29 a_turns v1 x.1 x.2
def fX5_howManyFarthest (a_turns : Nat → Int32)  : Option Int32 :=
  (fX5_farthest a_turns).bind fun r1 =>
  (it (fX5_howManyFarthest_B9 a_turns r1) FU ((0 : Int32), (0 : Int32))).bind fun y2 =>
  some y2
def fX6_size (a_sizes : Nat → Int32) (s_tree : Int32)  : Option Int32 :=
  (fX0_sizeOf a_sizes s_tree).bind fun r1 =>
  some r1
def fX6_nodes (a_sizes : Nat → Int32) (s_tree : Int32) (s_held : Int32) (v1 : Int32) : Option (Int32 × Int32 × Int32) :=
  (fX0_isSize v1).bind fun r1 =>
  if r1 = 0 then
    some ((-2 : Int32), s_tree, s_held)
  else
    (fX6_size a_sizes s_tree).bind fun r2 =>
    (fX0_firstOf v1).bind fun r3 =>
    (fX3_clear s_held).bind fun r4 =>
    some (r2, r3, r4)
def fX6_become (a_trees : Nat → Int32) (s_tree : Int32) (s_held : Int32) (v1 : Int32) : Option ((Nat → Int32) × Int32 × Int32) :=
  if v1 = s_tree then
    some (a_trees, s_tree, s_held)
  else
    (fX3_add a_trees s_held s_tree).bind fun r1 =>
    some (r1.1, v1, r1.2)
def fX6_becomeAndTell (a_sizes : Nat → Int32) (a_trees : Nat → Int32) (s_tree : Int32) (s_held : Int32) (v1 : Int32) : Option (Int32 × (Nat → Int32) × Int32 × Int32) :=
  (fX6_become a_trees s_tree s_held v1).bind fun r1 =>
  (fX0_numberOf a_sizes r1.2.1).bind fun r2 =>
  some (r2, r1.1, r1.2.1, r1.2.2)
def fX6_row (a_codes : Nat → Int32) (a_sizes : Nat → Int32) (a_trees : Nat → Int32) (s_tree : Int32) (s_held : Int32) (v1 : Int32) : Option (Int32 × (Nat → Int32) × Int32 × Int32) :=
  (fX6_size a_sizes s_tree).bind fun r1 =>
  (fX0_findDigits a_codes r1 v1).bind fun r2 =>
  if r2 = 0 then
    some ((-2 : Int32), a_trees, s_tree, s_held)
  else
    (fX6_becomeAndTell a_sizes a_trees s_tree s_held r2).bind fun r3 =>
    some (r3.1, r3.2.1, r3.2.2.1, r3.2.2.2)
def fX6_isNode (a_sizes : Nat → Int32) (s_tree : Int32) (v1 : Int32) : Option Int32 :=
  if v1 < 0 then
    some (0 : Int32)
  else
    (fX6_size a_sizes s_tree).bind fun r1 =>
    if r1 ≤ v1 then
      some (0 : Int32)
    else
      some (1 : Int32)
def fX6_of (a_codes : Nat → Int32) (a_sizes : Nat → Int32) (s_tree : Int32) (v1 : Int32) (v2 : Int32) : Option Int32 :=
  (fX6_isNode a_sizes s_tree v1).bind fun r1 =>
  if r1 = 0 then
    some (-1 : Int32)
  else
    if v2 = 0 then
      (fX0_rightSize a_codes a_sizes s_tree v1).bind fun r2 =>
      some r2
    else
      if v2 = 1 then
        (fX0_parent a_codes a_sizes s_tree v1).bind fun r3 =>
        some r3
      else
        if v2 = 2 then
          (fX0_leftChild a_codes a_sizes s_tree v1).bind fun r4 =>
          some r4
        else
          if v2 = 3 then
            (fX0_rightChild a_codes a_sizes s_tree v1).bind fun r5 =>
            some r5
          else
            if v2 = 4 then
              (fX0_leftSize a_codes a_sizes s_tree v1).bind fun r6 =>
              some r6
            else
              if v2 = 5 then
                (fX0_depth a_codes a_sizes s_tree v1).bind fun r7 =>
                some r7
              else
                some (-1 : Int32)
def fX6_number (a_sizes : Nat → Int32) (a_trees : Nat → Int32) (s_tree : Int32) (s_held : Int32) (v1 : Int32) : Option (Int32 × (Nat → Int32) × Int32 × Int32) :=
  if v1 < 0 then
    some ((-1 : Int32), a_trees, s_tree, s_held)
  else
    (fX6_size a_sizes s_tree).bind fun r1 =>
    (fX0_howMany r1).bind fun r2 =>
    if v1 < r2 then
      (fX0_numberOf a_sizes s_tree).bind fun r3 =>
      (fX6_size a_sizes s_tree).bind fun r4 =>
      (fX0_firstOf r4).bind fun r5 =>
      (fX6_become a_trees s_tree s_held (r5 + v1)).bind fun r6 =>
      some (r3, r6.1, r6.2.1, r6.2.2)
    else
      some ((-1 : Int32), a_trees, s_tree, s_held)
def fX6_which (a_sizes : Nat → Int32) (s_tree : Int32)  : Option Int32 :=
  (fX0_numberOf a_sizes s_tree).bind fun r1 =>
  some r1
def fX6_many  (v1 : Int32) : Option Int32 :=
  (fX0_isSize v1).bind fun r1 =>
  if r1 = 0 then
    some (-2 : Int32)
  else
    (fX0_howMany v1).bind fun r2 =>
    some r2
def fX6_digits (a_codes : Nat → Int32) (a_sizes : Nat → Int32) (s_tree : Int32)  : Option Int32 :=
  (fX0_asDigits a_codes a_sizes s_tree).bind fun r1 =>
  some r1
def fX6_turn (a_codes : Nat → Int32) (a_sizes : Nat → Int32) (a_trees : Nat → Int32) (s_tree : Int32) (s_held : Int32) (v1 : Int32) : Option (Int32 × (Nat → Int32) × Int32 × Int32) :=
  (fX6_isNode a_sizes s_tree v1).bind fun r1 =>
  if r1 = 0 then
    some ((-1 : Int32), a_trees, s_tree, s_held)
  else
    (fX0_turnedUp a_codes a_sizes s_tree v1).bind fun r2 =>
    if r2 = 0 then
      some ((-5 : Int32), a_trees, s_tree, s_held)
    else
      (fX6_becomeAndTell a_sizes a_trees s_tree s_held r2).bind fun r3 =>
      some (r3.1, r3.2.1, r3.2.2.1, r3.2.2.2)
def fX6_back (a_codes : Nat → Int32) (a_sizes : Nat → Int32) (a_trees : Nat → Int32) (s_tree : Int32) (s_held : Int32) (v1 : Int32) : Option (Int32 × (Nat → Int32) × Int32 × Int32) :=
  (fX6_isNode a_sizes s_tree v1).bind fun r1 =>
  if r1 = 0 then
    some ((-1 : Int32), a_trees, s_tree, s_held)
  else
    (fX0_turnedBack a_codes a_sizes s_tree v1).bind fun r2 =>
    if r2 = 0 then
      some ((-5 : Int32), a_trees, s_tree, s_held)
    else
      (fX6_becomeAndTell a_sizes a_trees s_tree s_held r2).bind fun r3 =>
      some (r3.1, r3.2.1, r3.2.2.1, r3.2.2.2)
def fX6_mayTurn (a_codes : Nat → Int32) (a_sizes : Nat → Int32) (s_tree : Int32) (v1 : Int32) : Option Int32 :=
  if v1 = 0 then
    (fX0_leftChildren a_codes a_sizes s_tree).bind fun r1 =>
    (fJ0_bitCount r1).bind fun r2 =>
    some r2
  else
    if v1 = 1 then
      (fX0_withRightChild a_codes a_sizes s_tree).bind fun r3 =>
      (fJ0_bitCount r3).bind fun r4 =>
      some r4
    else
      if v1 = 2 then
        (fX0_leftChildren a_codes a_sizes s_tree).bind fun r5 =>
        some r5
      else
        if v1 = 3 then
          (fX0_withRightChild a_codes a_sizes s_tree).bind fun r6 =>
          some r6
        else
          some (-1 : Int32)
def fX6_mirror (a_codes : Nat → Int32) (a_sizes : Nat → Int32) (a_trees : Nat → Int32) (s_tree : Int32) (s_held : Int32)  : Option (Int32 × (Nat → Int32) × Int32 × Int32) :=
  (fX0_mirrored a_codes a_sizes s_tree).bind fun r1 =>
  (fX6_becomeAndTell a_sizes a_trees s_tree s_held r1).bind fun r2 =>
  some (r2.1, r2.2.1, r2.2.2.1, r2.2.2.2)
def fX6_off (a_trees : Nat → Int32) (s_tree : Int32) (s_held : Int32)  : Option (Int32 × Int32 × Int32) :=
  (fX3_takeLatest a_trees s_held).bind fun r1 =>
  if r1.1 = 0 then
    some ((-3 : Int32), s_tree, r1.2)
  else
    (fX3_held r1.2).bind fun r2 =>
    some (r2, r1.1, r1.2)
def fX6_isShelf  (v0 : Int32) : Option Int32 :=
  if v0 < 0 then
    some (0 : Int32)
  else
    if (4 : Int32) ≤ v0 then
      some (0 : Int32)
    else
      some (1 : Int32)
def fX6_lack (a_shelves : Nat → Int32) (v1 : Int32) : Option Int32 :=
  (fX6_isShelf v1).bind fun r1 =>
  if r1 = 0 then
    some (-1 : Int32)
  else
    (rd 4 a_shelves v1).bind fun t2 =>
    if t2 = 0 then
      some (-6 : Int32)
    else
      some (0 : Int32)
def fX6_refusal (a_sizes : Nat → Int32) (a_shelves : Nat → Int32) (s_tree : Int32) (v1 : Int32) : Option Int32 :=
  (fX6_lack a_shelves v1).bind fun r1 =>
  if r1 = 0 then
    (rd 4 a_shelves v1).bind fun t2 =>
    (fX0_sizeOf a_sizes t2).bind fun r3 =>
    (fX6_size a_sizes s_tree).bind fun r4 =>
    if r3 = r4 then
      some (0 : Int32)
    else
      some (-7 : Int32)
  else
    some r1
def fX6_refusalOfTwo_J9 (a_sizes : Nat → Int32) (a_shelves : Nat → Int32) (s_tree : Int32)   : Option Int32 :=
  some (-1 : Int32)
def fX6_refusalOfTwo (a_sizes : Nat → Int32) (a_shelves : Nat → Int32) (s_tree : Int32) (v1 : Int32) (v2 : Int32) : Option Int32 :=
  if v2 < 0 then
    fX6_refusalOfTwo_J9 a_sizes a_shelves s_tree
  else
    if v2 ≤ (1 : Int32) then
      (fX6_refusal a_sizes a_shelves s_tree v1).bind fun r1 =>
      some r1
    else
      fX6_refusalOfTwo_J9 a_sizes a_shelves s_tree
def fX6_below_J54 (a_codes : Nat → Int32) (a_sizes : Nat → Int32) (a_shelves : Nat → Int32) (s_tree : Int32)  (k0 : Int32) : Option Int32 :=
  if k0 = 0 then
    some (0 : Int32)
  else
    some (1 : Int32)
def fX6_below (a_codes : Nat → Int32) (a_sizes : Nat → Int32) (a_shelves : Nat → Int32) (s_tree : Int32) (v1 : Int32) (v2 : Int32) : Option Int32 :=
  (fX6_refusalOfTwo a_sizes a_shelves s_tree v1 v2).bind fun r1 =>
  if r1 = 0 then
    (rd 4 a_shelves v1).bind fun t2 =>
    if v2 = 0 then
      (fX2_isBelow a_codes s_tree t2).bind fun r4 =>
      fX6_below_J54 a_codes a_sizes a_shelves s_tree r4
    else
      (fX2_isBelow a_codes t2 s_tree).bind fun r3 =>
      fX6_below_J54 a_codes a_sizes a_shelves s_tree r3
  else
    some r1
def fX6_meet_J41 (a_codes : Nat → Int32) (a_sizes : Nat → Int32) (a_shelves : Nat → Int32) (s_tree : Int32)  (k0 : Int32) (k1 : Int32) (k2 : Int32) : Option Int32 :=
  (fX2_meetOrJoin a_codes a_sizes k2 k1 k0).bind fun r1 =>
  (fX0_numberOf a_sizes r1).bind fun r2 =>
  some r2
def fX6_meet (a_codes : Nat → Int32) (a_sizes : Nat → Int32) (a_shelves : Nat → Int32) (s_tree : Int32) (v1 : Int32) (v2 : Int32) : Option Int32 :=
  (fX6_refusalOfTwo a_sizes a_shelves s_tree v1 v2).bind fun r1 =>
  if r1 = 0 then
    (rd 4 a_shelves v1).bind fun t2 =>
    if v2 = (1 : Int32) then
      fX6_meet_J41 a_codes a_sizes a_shelves s_tree (1 : Int32) t2 s_tree
    else
      fX6_meet_J41 a_codes a_sizes a_shelves s_tree (0 : Int32) t2 s_tree
  else
    some r1
def fX6_meetAll_J78 (a_codes : Nat → Int32) (a_sizes : Nat → Int32) (a_shelves : Nat → Int32) (s_tree : Int32) (v1 : Int32) (v2 : Int32) (v4 : Int32) (v5 : Int32)  : Option ((Int32 × Int32) ⊕ Int32) :=
  some (.inl (v2, (v5 + 1)))
def fX6_meetAll_J74 (a_codes : Nat → Int32) (a_sizes : Nat → Int32) (a_shelves : Nat → Int32) (s_tree : Int32) (v1 : Int32) (v4 : Int32) (v5 : Int32) (k0 : Int32) (k1 : Int32) (k2 : Int32) : Option ((Int32 × Int32) ⊕ Int32) :=
  (fX2_meetOrJoin a_codes a_sizes k2 k1 k0).bind fun r1 =>
  fX6_meetAll_J78 a_codes a_sizes a_shelves s_tree v1 r1 v4 v5
def fX6_meetAll_B28 (a_codes : Nat → Int32) (a_sizes : Nat → Int32) (a_shelves : Nat → Int32) (s_tree : Int32) (v1 : Int32) (v4 : Int32) (x : (Int32 × Int32)) : Option ((Int32 × Int32) ⊕ Int32) :=
  if v4 ≤ x.2 then
    some (.inr x.1)
  else
    (rd 4 a_shelves x.2).bind fun t1 =>
    (fX0_sizeOf a_sizes t1).bind fun r2 =>
    (fX6_size a_sizes s_tree).bind fun r3 =>
    if r2 = r3 then
      if v1 = (1 : Int32) then
        fX6_meetAll_J74 a_codes a_sizes a_shelves s_tree v1 v4 x.2 (1 : Int32) t1 x.1
      else
        fX6_meetAll_J74 a_codes a_sizes a_shelves s_tree v1 v4 x.2 (0 : Int32) t1 x.1
    else
      fX6_meetAll_J78 a_codes a_sizes a_shelves s_tree v1 x.1 v4 x.2
def fX6_meetAll (a_codes : Nat → Int32) (a_sizes : Nat → Int32) (a_shelves : Nat → Int32) (s_tree : Int32) (v1 : Int32) : Option Int32 :=
  if v1 < 0 then
    some (-1 : Int32)
  else
    if v1 ≤ (1 : Int32) then
      (it (fX6_meetAll_B28 a_codes a_sizes a_shelves s_tree v1 (4 : Int32)) FU (s_tree, (0 : Int32))).bind fun y1 =>
      (fX0_numberOf a_sizes y1).bind fun r2 =>
      some r2
    else
      some (-1 : Int32)
def fX6_between (a_codes : Nat → Int32) (a_sizes : Nat → Int32) (a_shelves : Nat → Int32) (s_tree : Int32) (v1 : Int32) (v2 : Int32) : Option Int32 :=
  if (-1 : Int32) ≤ v2 then
    (fX6_refusal a_sizes a_shelves s_tree v1).bind fun r1 =>
    if r1 = 0 then
      if v2 = (-1 : Int32) then
        (rd 4 a_shelves v1).bind fun t5 =>
        (fX2_howManyBetween a_codes s_tree t5).bind fun r6 =>
        some r6
      else
        (rd 4 a_shelves v1).bind fun t2 =>
        (fX2_nthBetween a_codes s_tree t2 v2).bind fun r3 =>
        if r3 = 0 then
          some (-1 : Int32)
        else
          (fX0_numberOf a_sizes r3).bind fun r4 =>
          some r4
    else
      some r1
  else
    some (-1 : Int32)
def fX6_way (a_codes : Nat → Int32) (a_sizes : Nat → Int32) (a_ups : Nat → Int32) (a_backs : Nat → Int32) (a_learned : Nat → Int32) (a_turns : Nat → Int32) (a_queue : Nat → Int32) (a_shelves : Nat → Int32) (s_tree : Int32) (s_queued : Int32) (s_measured : Int32) (v1 : Int32) (v2 : Int32) : Option (Int32 × (Nat → Int32) × (Nat → Int32) × (Nat → Int32) × (Nat → Int32) × (Nat → Int32) × Int32 × Int32) :=
  (fX6_refusalOfTwo a_sizes a_shelves s_tree v1 v2).bind fun r1 =>
  if r1 = 0 then
    (rd 4 a_shelves v1).bind fun t2 =>
    (fX5_measure a_codes a_sizes a_ups a_backs a_learned a_turns a_queue s_queued s_measured t2).bind fun r3 =>
    (fX5_turnsFrom r3.2.2.2.1 s_tree).bind fun r4 =>
    if v2 = 0 then
      some (r4, r3.1, r3.2.1, r3.2.2.1, r3.2.2.2.1, r3.2.2.2.2.1, r3.2.2.2.2.2.1, r3.2.2.2.2.2.2)
    else
      if r4 = 0 then
        some ((-5 : Int32), r3.1, r3.2.1, r3.2.2.1, r3.2.2.2.1, r3.2.2.2.2.1, r3.2.2.2.2.2.1, r3.2.2.2.2.2.2)
      else
        (fX5_firstTurn a_sizes r3.1 r3.2.1 r3.2.2.2.1 s_tree).bind fun r5 =>
        if r5 < 0 then
          some (((99 : Int32) - r5), r3.1, r3.2.1, r3.2.2.1, r3.2.2.2.1, r3.2.2.2.2.1, r3.2.2.2.2.2.1, r3.2.2.2.2.2.2)
        else
          some (r5, r3.1, r3.2.1, r3.2.2.1, r3.2.2.2.1, r3.2.2.2.2.1, r3.2.2.2.2.2.1, r3.2.2.2.2.2.2)
  else
    some (r1, a_ups, a_backs, a_learned, a_turns, a_queue, s_queued, s_measured)
def fX6_chain_J60 (a_codes : Nat → Int32) (a_sizes : Nat → Int32) (a_ups : Nat → Int32) (a_backs : Nat → Int32) (a_learned : Nat → Int32) (a_turnsUp : Nat → Int32) (a_shelves : Nat → Int32) (s_tree : Int32)  (k0 : Int32) (k1 : Int32) (k2 : Int32) : Option (Int32 × (Nat → Int32) × (Nat → Int32) × (Nat → Int32) × (Nat → Int32)) :=
  (fX5_turnsUpAlone a_codes a_sizes a_ups a_backs a_learned a_turnsUp k2 k1 k0).bind fun r1 =>
  some (r1.1, r1.2.1, r1.2.2.1, r1.2.2.2.1, r1.2.2.2.2)
def fX6_chain (a_codes : Nat → Int32) (a_sizes : Nat → Int32) (a_ups : Nat → Int32) (a_backs : Nat → Int32) (a_learned : Nat → Int32) (a_turnsUp : Nat → Int32) (a_shelves : Nat → Int32) (s_tree : Int32) (v1 : Int32) (v2 : Int32) : Option (Int32 × (Nat → Int32) × (Nat → Int32) × (Nat → Int32) × (Nat → Int32)) :=
  (fX6_refusalOfTwo a_sizes a_shelves s_tree v1 v2).bind fun r1 =>
  if r1 = 0 then
    (rd 4 a_shelves v1).bind fun t2 =>
    (fX2_isBelow a_codes s_tree t2).bind fun r3 =>
    if r3 = 0 then
      some ((-5 : Int32), a_ups, a_backs, a_learned, a_turnsUp)
    else
      (rd 4 a_shelves v1).bind fun t4 =>
      if v2 = (1 : Int32) then
        fX6_chain_J60 a_codes a_sizes a_ups a_backs a_learned a_turnsUp a_shelves s_tree (1 : Int32) t4 s_tree
      else
        fX6_chain_J60 a_codes a_sizes a_ups a_backs a_learned a_turnsUp a_shelves s_tree (0 : Int32) t4 s_tree
  else
    some (r1, a_ups, a_backs, a_learned, a_turnsUp)
def fX6_mark (a_codes : Nat → Int32) (a_sizes : Nat → Int32) (a_markedCodes : Nat → Int32) (a_marks : Nat → Int32) (a_shelves : Nat → Int32) (s_tree : Int32) (v1 : Int32) : Option (Int32 × (Nat → Int32) × (Nat → Int32)) :=
  (fX6_refusal a_sizes a_shelves s_tree v1).bind fun r1 =>
  if r1 = 0 then
    (rd 4 a_shelves v1).bind fun t2 =>
    (fX2_isBelow a_codes s_tree t2).bind fun r3 =>
    if r3 = 0 then
      some ((-95 : Int32), a_markedCodes, a_marks)
    else
      (rd 4 a_shelves v1).bind fun t4 =>
      (fX2_markOf a_codes a_markedCodes a_marks s_tree t4).bind fun r5 =>
      some (r5.1, r5.2.1, r5.2.2)
  else
    some (((-100 : Int32) - r1), a_markedCodes, a_marks)
def fX6_pairs (a_codes : Nat → Int32) (v1 : Int32) : Option Int32 :=
  (fX0_isSize v1).bind fun r1 =>
  if r1 = 0 then
    some (-2 : Int32)
  else
    if (6 : Int32) < v1 then
      some (-2 : Int32)
    else
      (fX2_howManyPairs a_codes v1).bind fun r2 =>
      some r2
def fX6_far (a_codes : Nat → Int32) (a_sizes : Nat → Int32) (a_ups : Nat → Int32) (a_backs : Nat → Int32) (a_learned : Nat → Int32) (a_turns : Nat → Int32) (a_queue : Nat → Int32) (s_tree : Int32) (s_queued : Int32) (s_measured : Int32) (v1 : Int32) : Option (Int32 × (Nat → Int32) × (Nat → Int32) × (Nat → Int32) × (Nat → Int32) × (Nat → Int32) × Int32 × Int32) :=
  (fX5_measure a_codes a_sizes a_ups a_backs a_learned a_turns a_queue s_queued s_measured s_tree).bind fun r1 =>
  if v1 = 0 then
    (fX5_farthest r1.2.2.2.1).bind fun r2 =>
    some (r2, r1.1, r1.2.1, r1.2.2.1, r1.2.2.2.1, r1.2.2.2.2.1, r1.2.2.2.2.2.1, r1.2.2.2.2.2.2)
  else
    if v1 = 1 then
      (fX5_howManyFarthest r1.2.2.2.1).bind fun r3 =>
      some (r3, r1.1, r1.2.1, r1.2.2.1, r1.2.2.2.1, r1.2.2.2.2.1, r1.2.2.2.2.2.1, r1.2.2.2.2.2.2)
    else
      if v1 = 2 then
        (fX5_leastFarthest r1.2.2.2.1).bind fun r4 =>
        (fX0_numberOf a_sizes r4).bind fun r5 =>
        some (r5, r1.1, r1.2.1, r1.2.2.1, r1.2.2.2.1, r1.2.2.2.2.1, r1.2.2.2.2.2.1, r1.2.2.2.2.2.2)
      else
        some ((-1 : Int32), r1.1, r1.2.1, r1.2.2.1, r1.2.2.2.1, r1.2.2.2.2.1, r1.2.2.2.2.2.1, r1.2.2.2.2.2.2)
def fX6_canopy (a_codes : Nat → Int32) (a_sizes : Nat → Int32) (s_tree : Int32)  : Option Int32 :=
  (fX0_withRightChild a_codes a_sizes s_tree).bind fun r1 =>
  some r1
def fX6_inClass (a_codes : Nat → Int32) (a_sizes : Nat → Int32) (s_tree : Int32) (v1 : Int32) (v2 : Int32) : Option Int32 :=
  if v1 < 0 then
    some (-2 : Int32)
  else
    (fX6_size a_sizes s_tree).bind fun r1 =>
    if v1 < ((1 : Int32) <<< ((r1 - (1 : Int32)) &&& 31)) then
      if v2 = 0 then
        (fX6_size a_sizes s_tree).bind fun r2 =>
        (fX0_howManyWith a_codes a_sizes r2 v1).bind fun r3 =>
        some r3
      else
        if v2 = 1 then
          (fX6_size a_sizes s_tree).bind fun r4 =>
          (fX0_leastWith a_codes a_sizes r4 v1).bind fun r5 =>
          (fX0_numberOf a_sizes r5).bind fun r6 =>
          some r6
        else
          if v2 = 2 then
            (fX6_size a_sizes s_tree).bind fun r7 =>
            (fX0_greatestWith a_codes a_sizes r7 v1).bind fun r8 =>
            (fX0_numberOf a_sizes r8).bind fun r9 =>
            some r9
          else
            some (-1 : Int32)
    else
      some (-2 : Int32)
def fX6_likeness (a_codes : Nat → Int32) (a_sizes : Nat → Int32) (a_shelves : Nat → Int32) (s_tree : Int32) (v1 : Int32) : Option Int32 :=
  (fX6_refusal a_sizes a_shelves s_tree v1).bind fun r1 =>
  if r1 = 0 then
    (fX0_withRightChild a_codes a_sizes s_tree).bind fun r2 =>
    (rd 4 a_shelves v1).bind fun t3 =>
    (fX0_withRightChild a_codes a_sizes t3).bind fun r4 =>
    (fJ0_bitCount (r2 ^^^ r4)).bind fun r5 =>
    some r5
  else
    some r1
def fX6_keep (a_sizes : Nat → Int32) (a_shelves : Nat → Int32) (s_tree : Int32) (v1 : Int32) : Option (Int32 × (Nat → Int32)) :=
  (fX6_isShelf v1).bind fun r1 =>
  if r1 = 0 then
    some ((-1 : Int32), a_shelves)
  else
    (wr 4 a_shelves v1 s_tree).bind fun u2 =>
    (fX0_numberOf a_sizes s_tree).bind fun r3 =>
    some (r3, u2)
def fX6_lay (a_sizes : Nat → Int32) (a_trees : Nat → Int32) (a_shelves : Nat → Int32) (s_tree : Int32) (s_held : Int32) (v1 : Int32) : Option (Int32 × (Nat → Int32) × Int32 × Int32) :=
  (fX6_lack a_shelves v1).bind fun r1 =>
  if r1 = 0 then
    (rd 4 a_shelves v1).bind fun t2 =>
    (fX6_become a_trees s_tree s_held t2).bind fun r3 =>
    (fX6_size a_sizes r3.2.1).bind fun r4 =>
    some (r4, r3.1, r3.2.1, r3.2.2)
  else
    some (r1, a_trees, s_tree, s_held)
def fX6_lose (a_sizes : Nat → Int32) (a_shelves : Nat → Int32) (v1 : Int32) : Option (Int32 × (Nat → Int32)) :=
  (fX6_lack a_shelves v1).bind fun r1 =>
  if r1 = 0 then
    (rd 4 a_shelves v1).bind fun t2 =>
    (fX0_sizeOf a_sizes t2).bind fun r3 =>
    (wr 4 a_shelves v1 (0 : Int32)).bind fun u4 =>
    some (r3, u4)
  else
    some (r1, a_shelves)
def fX6_lackOrTooMany (a_sizes : Nat → Int32) (a_shelves : Nat → Int32) (s_tree : Int32) (v1 : Int32) : Option Int32 :=
  (fX6_lack a_shelves v1).bind fun r1 =>
  if r1 = 0 then
    (fX6_size a_sizes s_tree).bind fun r2 =>
    (rd 4 a_shelves v1).bind fun t3 =>
    (fX0_sizeOf a_sizes t3).bind fun r4 =>
    if (r2 + r4) ≤ (7 : Int32) then
      some (0 : Int32)
    else
      some (-4 : Int32)
  else
    some r1
def fX6_over (a_codes : Nat → Int32) (a_sizes : Nat → Int32) (a_trees : Nat → Int32) (a_shelves : Nat → Int32) (s_tree : Int32) (s_held : Int32) (v1 : Int32) : Option (Int32 × (Nat → Int32) × Int32 × Int32) :=
  (fX6_lackOrTooMany a_sizes a_shelves s_tree v1).bind fun r1 =>
  if r1 = 0 then
    (rd 4 a_shelves v1).bind fun t2 =>
    (fX0_setOver a_codes a_sizes t2 s_tree).bind fun r3 =>
    (fX6_become a_trees s_tree s_held r3).bind fun r4 =>
    (fX6_size a_sizes r4.2.1).bind fun r5 =>
    some (r5, r4.1, r4.2.1, r4.2.2)
  else
    some (r1, a_trees, s_tree, s_held)
def fX6_under (a_codes : Nat → Int32) (a_sizes : Nat → Int32) (a_trees : Nat → Int32) (a_shelves : Nat → Int32) (s_tree : Int32) (s_held : Int32) (v1 : Int32) : Option (Int32 × (Nat → Int32) × Int32 × Int32) :=
  (fX6_lackOrTooMany a_sizes a_shelves s_tree v1).bind fun r1 =>
  if r1 = 0 then
    (rd 4 a_shelves v1).bind fun t2 =>
    (fX0_setUnder a_codes a_sizes s_tree t2).bind fun r3 =>
    (fX6_become a_trees s_tree s_held r3).bind fun r4 =>
    (fX6_size a_sizes r4.2.1).bind fun r5 =>
    some (r5, r4.1, r4.2.1, r4.2.2)
  else
    some (r1, a_trees, s_tree, s_held)
def fX6_shelf (a_codes : Nat → Int32) (a_sizes : Nat → Int32) (a_shelves : Nat → Int32) (v1 : Int32) (v2 : Int32) : Option Int32 :=
  if v2 < 0 then
    some (-1 : Int32)
  else
    if v2 ≤ (2 : Int32) then
      (fX6_lack a_shelves v1).bind fun r1 =>
      if r1 = 0 then
        if v2 = 0 then
          (rd 4 a_shelves v1).bind fun t2 =>
          (fX0_sizeOf a_sizes t2).bind fun r3 =>
          some r3
        else
          if v2 = 1 then
            (rd 4 a_shelves v1).bind fun t4 =>
            (fX0_numberOf a_sizes t4).bind fun r5 =>
            some r5
          else
            (rd 4 a_shelves v1).bind fun t6 =>
            (fX0_asDigits a_codes a_sizes t6).bind fun r7 =>
            some r7
      else
        some r1
    else
      some (-1 : Int32)
def fX6_list (a_lengths : Nat → Int32) (lo : Nat → Nat → Int64) (v1 : Int32) (v2 : Int32) : Option (Int32 × (Nat → Int32) × (Nat → Nat → Int64)) :=
  (fX1_isList v1).bind fun r1 =>
  if r1 = 0 then
    some ((-1 : Int32), a_lengths, lo)
  else
    if v2 ≤ (20 : Int32) then
      if (-1 : Int32) ≤ v2 then
        (fX1_renew a_lengths lo v1 v2).bind fun r2 =>
        some ((1 : Int32), r2.1, r2.2)
      else
        some ((-14 : Int32), a_lengths, lo)
    else
      some ((-2 : Int32), a_lengths, lo)
def fX6_put (a_lengths : Nat → Int32) (lo : Nat → Nat → Int64) (v1 : Int32) (v2 : Int32) (v3 : Int64) : Option (Int32 × (Nat → Nat → Int64)) :=
  (fX1_isList v1).bind fun r1 =>
  if r1 = 0 then
    some ((-1 : Int32), lo)
  else
    (fX1_isThere a_lengths v1).bind fun r2 =>
    if r2 = 0 then
      some ((-11 : Int32), lo)
    else
      (fX1_isPlace a_lengths v1 v2).bind fun r3 =>
      if r3 = 0 then
        some ((-13 : Int32), lo)
      else
        (fX1_store a_lengths lo v1 v2 v3).bind fun r4 =>
        some ((1 : Int32), r4)
def fX6_get (a_lengths : Nat → Int32) (lo : Nat → Nat → Int64) (v1 : Int32) (v2 : Int32) : Option Int64 :=
  (fX1_isPlace a_lengths v1 v2).bind fun r1 =>
  if r1 = 0 then
    some (-9223372036854775808 : Int64)
  else
    (fX1_valueAt a_lengths lo v1 v2).bind fun r2 =>
    some r2
def fX6_play_B34 (a_codes : Nat → Int32) (a_sizes : Nat → Int32) (a_lengths : Nat → Int32) (lo : Nat → Nat → Int64) (v1 : Int32) (v2 : Int32) (x : (Int32 × (Nat → Int32) × Int32 × Int32)) : Option ((Int32 × (Nat → Int32) × Int32 × Int32) ⊕ (((Nat → Int32) × Int32 × Int32) ⊕ (Int32 × (Nat → Int32) × Int32 × Int32))) :=
  if v2 ≤ x.1 then
    some (.inr (.inl (x.2.1, x.2.2.1, x.2.2.2)))
  else
    (fX1_valueAt a_lengths lo v1 x.1).bind fun r1 =>
    (fX0_turnedAsTold a_codes a_sizes x.2.2.1 r1).bind fun r2 =>
    if r2 = 0 then
      some (.inr (.inr (x.1, x.2.1, x.2.2.1, x.2.2.2)))
    else
      (fX6_become x.2.1 x.2.2.1 x.2.2.2 r2).bind fun r3 =>
      some (.inl ((x.1 + 1), r3.1, r3.2.1, r3.2.2))
def fX6_play (a_codes : Nat → Int32) (a_sizes : Nat → Int32) (a_trees : Nat → Int32) (a_lengths : Nat → Int32) (lo : Nat → Nat → Int64) (s_tree : Int32) (s_held : Int32) (v1 : Int32) : Option (Int32 × (Nat → Int32) × Int32 × Int32) :=
  (fX1_isList v1).bind fun r1 =>
  if r1 = 0 then
    some ((-1 : Int32), a_trees, s_tree, s_held)
  else
    (fX1_isThere a_lengths v1).bind fun r2 =>
    if r2 = 0 then
      some ((-11 : Int32), a_trees, s_tree, s_held)
    else
      (fX1_lengthOf a_lengths v1).bind fun r3 =>
      (it (fX6_play_B34 a_codes a_sizes a_lengths lo v1 r3) FU ((0 : Int32), a_trees, s_tree, s_held)).bind (Sum.elim (fun y4 =>
        some (r3, y4.1, y4.2.1, y4.2.2)) some)
def fX6_film_B76 (a_codes : Nat → Int32) (a_sizes : Nat → Int32) (a_ups : Nat → Int32) (a_backs : Nat → Int32) (a_turns : Nat → Int32) (a_lengths : Nat → Int32) (v1 : Int32) (v4 : Int32) (x : (Int32 × Int32 × (Nat → Nat → Int64))) : Option ((Int32 × Int32 × (Nat → Nat → Int64)) ⊕ (Nat → Nat → Int64)) :=
  if v4 ≤ x.2.1 then
    some (.inr x.2.2)
  else
    (fX5_firstTurn a_sizes a_ups a_backs a_turns x.1).bind fun r1 =>
    (fX1_store a_lengths x.2.2 v1 x.2.1 (r1.toInt64)).bind fun r2 =>
    (fX0_turnedAsTold a_codes a_sizes x.1 (r1.toInt64)).bind fun r3 =>
    some (.inl (r3, (x.2.1 + 1), r2))
def fX6_film (a_codes : Nat → Int32) (a_sizes : Nat → Int32) (a_ups : Nat → Int32) (a_backs : Nat → Int32) (a_learned : Nat → Int32) (a_turns : Nat → Int32) (a_queue : Nat → Int32) (a_lengths : Nat → Int32) (a_shelves : Nat → Int32) (lo : Nat → Nat → Int64) (s_tree : Int32) (s_queued : Int32) (s_measured : Int32) (v1 : Int32) (v2 : Int32) : Option (Int32 × (Nat → Int32) × (Nat → Int32) × (Nat → Int32) × (Nat → Int32) × (Nat → Int32) × (Nat → Int32) × (Nat → Nat → Int64) × Int32 × Int32) :=
  (fX1_isList v1).bind fun r1 =>
  if r1 = 0 then
    some ((-1 : Int32), a_ups, a_backs, a_learned, a_turns, a_queue, a_lengths, lo, s_queued, s_measured)
  else
    (fX6_refusal a_sizes a_shelves s_tree v2).bind fun r2 =>
    if r2 = 0 then
      (rd 4 a_shelves v2).bind fun t3 =>
      (fX5_measure a_codes a_sizes a_ups a_backs a_learned a_turns a_queue s_queued s_measured t3).bind fun r4 =>
      (fX5_turnsFrom r4.2.2.2.1 s_tree).bind fun r5 =>
      if r5 ≤ (20 : Int32) then
        (fX1_renew a_lengths lo v1 r5).bind fun r6 =>
        (it (fX6_film_B76 a_codes a_sizes r4.1 r4.2.1 r4.2.2.2.1 r6.1 v1 r5) FU (s_tree, (0 : Int32), r6.2)).bind fun y7 =>
        some (r5, r4.1, r4.2.1, r4.2.2.1, r4.2.2.2.1, r4.2.2.2.2.1, r6.1, y7, r4.2.2.2.2.2.1, r4.2.2.2.2.2.2)
      else
        some ((-4 : Int32), r4.1, r4.2.1, r4.2.2.1, r4.2.2.2.1, r4.2.2.2.2.1, a_lengths, lo, r4.2.2.2.2.2.1, r4.2.2.2.2.2.2)
    else
      some (r2, a_ups, a_backs, a_learned, a_turns, a_queue, a_lengths, lo, s_queued, s_measured)
def fX6_feed (a_bytes : Nat → Int32) (s_length : Int32) (v1 : Int32) : Option (Int32 × (Nat → Int32) × Int32) :=
  if v1 < (32 : Int32) then
    some ((-2 : Int32), a_bytes, s_length)
  else
    if v1 ≤ (126 : Int32) then
      (fX4_append a_bytes s_length v1).bind fun r1 =>
      if r1.1 = 0 then
        some ((-4 : Int32), r1.2.1, r1.2.2)
      else
        (fX4_length r1.2.2).bind fun r2 =>
        some (r2, r1.2.1, r1.2.2)
    else
      some ((-2 : Int32), a_bytes, s_length)
def fX6_wipe (s_length : Int32)  : Option (Int32 × Int32) :=
  (fX4_length s_length).bind fun r1 =>
  (fX4_clear s_length).bind fun r2 =>
  some (r1, r2)
def fX6_read (a_codes : Nat → Int32) (a_sizes : Nat → Int32) (a_bytes : Nat → Int32) (a_awaited : Nat → Int32) (a_openNodes : Nat → Int32) (a_rightSizes : Nat → Int32) (s_tree : Int32) (s_held : Int32) (s_length : Int32) (s_opn : Int32) (s_opened : Int32) (s_numbered : Int32)  : Option (Int32 × (Nat → Int32) × (Nat → Int32) × (Nat → Int32) × Int32 × Int32 × Int32 × Int32 × Int32 × Int32) :=
  (fX4_parse a_bytes a_awaited a_openNodes a_rightSizes s_length s_opn s_opened s_numbered).bind fun r1 =>
  (fX4_clear s_length).bind fun r2 =>
  if r1.1 = (-1 : Int32) then
    (fX4_parsedNodes r1.2.2.2.2.2.2).bind fun r3 =>
    (fX4_parsedCode r1.2.2.2.1 r1.2.2.2.2.2.2).bind fun r4 =>
    (fX0_find a_codes r3 r4).bind fun r5 =>
    (fX3_clear s_held).bind fun r6 =>
    (fX6_size a_sizes r5).bind fun r7 =>
    some (r7, r1.2.1, r1.2.2.1, r1.2.2.2.1, r5, r6, r2, r1.2.2.2.2.1, r1.2.2.2.2.2.1, r1.2.2.2.2.2.2)
  else
    some (((-100 : Int32) - r1.1), r1.2.1, r1.2.2.1, r1.2.2.2.1, s_tree, s_held, r2, r1.2.2.2.2.1, r1.2.2.2.2.2.1, r1.2.2.2.2.2.2)
def fX6_written (a_codes : Nat → Int32) (a_sizes : Nat → Int32) (s_tree : Int32) (v1 : Int32) : Option Int32 :=
  if v1 = (-1 : Int32) then
    (fX0_textLength a_sizes s_tree).bind fun r2 =>
    some r2
  else
    (fX0_textByte a_codes a_sizes s_tree v1).bind fun r1 =>
    some r1
def fX6_image (a_sizes : Nat → Int32) (a_shelves : Nat → Int32) (a_imageShelves : Nat → Int32) (s_imageTree : Int32) (s_tree : Int32)  : Option (Int32 × (Nat → Int32) × Int32) :=
  (cpo 4 4 a_shelves a_imageShelves (0 : Int32) (0 : Int32) (4 : Int32)).bind fun u1 =>
  (fX6_size a_sizes s_tree).bind fun r2 =>
  some (r2, u1, s_tree)
def fX6_undo (a_sizes : Nat → Int32) (a_shelves : Nat → Int32) (a_imageShelves : Nat → Int32) (s_imageTree : Int32) (s_tree : Int32) (s_held : Int32)  : Option (Int32 × (Nat → Int32) × Int32 × Int32) :=
  if s_imageTree = 0 then
    some ((-3 : Int32), a_shelves, s_tree, s_held)
  else
    (cpo 4 4 a_imageShelves a_shelves (0 : Int32) (0 : Int32) (4 : Int32)).bind fun u1 =>
    (fX3_clear s_held).bind fun r2 =>
    (fX6_size a_sizes s_imageTree).bind fun r3 =>
    some (r3, u1, s_imageTree, r2)
def fX6_shelvesInUse_J33 (a_shelves : Nat → Int32) (v1 : Int32) (v3 : Int32) (v4 : Int32)  : Option ((Int32 × Int32) ⊕ Int32) :=
  some (.inl (v1, (v4 + 1)))
def fX6_shelvesInUse_B13 (a_shelves : Nat → Int32) (v3 : Int32) (x : (Int32 × Int32)) : Option ((Int32 × Int32) ⊕ Int32) :=
  if v3 ≤ x.2 then
    some (.inr x.1)
  else
    (rd 4 a_shelves x.2).bind fun t1 =>
    if t1 = 0 then
      fX6_shelvesInUse_J33 a_shelves x.1 v3 x.2
    else
      fX6_shelvesInUse_J33 a_shelves (x.1 + 1) v3 x.2
def fX6_shelvesInUse (a_shelves : Nat → Int32)  : Option Int32 :=
  (it (fX6_shelvesInUse_B13 a_shelves (4 : Int32)) FU ((0 : Int32), (0 : Int32))).bind fun y1 =>
  some y1
def fX6_count (a_sizes : Nat → Int32) (a_lengths : Nat → Int32) (a_shelves : Nat → Int32) (s_tree : Int32) (s_held : Int32) (s_length : Int32) (v1 : Int32) : Option Int32 :=
  if v1 = 0 then
    (fX6_size a_sizes s_tree).bind fun r1 =>
    some r1
  else
    if v1 = 1 then
      (fX3_held s_held).bind fun r2 =>
      some r2
    else
      if v1 = 2 then
        (fX4_length s_length).bind fun r3 =>
        some r3
      else
        if v1 = 3 then
          (fX6_shelvesInUse a_shelves).bind fun r4 =>
          some r4
        else
          if v1 = 4 then
            (fX1_howManyThere a_lengths).bind fun r5 =>
            some r5
          else
            some (-1 : Int32)
end
section
def fX7_in  (v0 : Int64) (v2 : Int64) (v4 : Int64) : Option Int32 :=
  if (lg_cmp v0 v2) < 0 then
    some (0 : Int32)
  else
    if 0 < (lg_cmp v0 v4) then
      some (0 : Int32)
    else
      some (1 : Int32)
def fX7_ten_B4  (v0 : Int32) (x : (Int32 × Int32)) : Option ((Int32 × Int32) ⊕ Int32) :=
  if v0 ≤ x.2 then
    some (.inr x.1)
  else
    some (.inl ((x.1 * (10 : Int32)), (x.2 + 1)))
def fX7_ten  (v0 : Int32) : Option Int32 :=
  (it (fX7_ten_B4 v0) FU ((1 : Int32), (0 : Int32))).bind fun y1 =>
  some y1
def fX7_at  (v0 : Int32) (v1 : Int32) (v2 : Int32) : Option Int32 :=
  (fX7_ten ((v1 - (1 : Int32)) - v2)).bind fun r1 =>
  (dvo v0 r1).bind fun t2 =>
  (rmo t2 (10 : Int32)).bind fun t3 =>
  some t3
def fX7_with  (v0 : Int32) (v1 : Int32) (v2 : Int32) (v3 : Int32) : Option Int32 :=
  (fX7_at v0 v1 v2).bind fun r1 =>
  (fX7_ten ((v1 - (1 : Int32)) - v2)).bind fun r2 =>
  some (v0 + ((v3 - r1) * r2))
def fX7_isTree_B48  (v0 : Int32) (v1 : Int32) (v2 : Int32) (v3 : Int32) (x : Int32) : Option (Int32 ⊕ (Unit ⊕ Int32)) :=
  if (v2 + v3) < x then
    some (.inr (.inl ()))
  else
    (fX7_at v0 v1 x).bind fun r1 =>
    if (x + r1) ≤ (v2 + v3) then
      some (.inl (x + 1))
    else
      some (.inr (.inr (0 : Int32)))
def fX7_isTree_B20  (v0 : Int32) (v1 : Int32) (x : Int32) : Option (Int32 ⊕ (Unit ⊕ Int32)) :=
  if v1 ≤ x then
    some (.inr (.inl ()))
  else
    (fX7_at v0 v1 x).bind fun r1 =>
    if r1 ≤ ((v1 - (1 : Int32)) - x) then
      (it (fX7_isTree_B48 v0 v1 x r1) FU (x + (1 : Int32))).bind (Sum.elim (fun y2 =>
        some (.inl (x + 1))) (fun q => some (.inr (.inr q))))
    else
      some (.inr (.inr (0 : Int32)))
def fX7_isTree  (v0 : Int32) (v1 : Int32) : Option Int32 :=
  (fX7_ten v1).bind fun r1 =>
  (fX7_in (v0.toInt64) (0 : Int64) (((r1 - (1 : Int32))).toInt64)).bind fun r2 =>
  if r2 = 0 then
    some (0 : Int32)
  else
    (it (fX7_isTree_B20 v0 v1) FU (0 : Int32)).bind (Sum.elim (fun y3 =>
      some (1 : Int32)) some)
def fX7_table_J102  (v1 : Int32) (v2 : Int32) (v3 : Int32) (v4 : Int32) (v5 : Int32)  : Option ((Int32 × Int32 × Int32) ⊕ (Int32 × Int32)) :=
  some (.inl (v3, v4, (v5 + 1)))
def fX7_table_B37  (v1 : Int32) (v2 : Int32) (x : (Int32 × Int32 × Int32)) : Option ((Int32 × Int32 × Int32) ⊕ (Int32 × Int32)) :=
  if v1 ≤ x.2.2 then
    some (.inr (x.1, x.2.1))
  else
    if x.1 = 0 then
      some (.inr (x.1, x.2.1))
    else
      (fX7_at v2 v1 x.2.2).bind fun r1 =>
      if ((v1 - (1 : Int32)) - x.2.2) < r1 then
        (fX7_ten ((v1 - (1 : Int32)) - x.2.2)).bind fun r2 =>
        (fX7_at v2 v1 x.2.2).bind fun r3 =>
        (fX7_ten ((v1 - (1 : Int32)) - x.2.2)).bind fun r4 =>
        (rmo v2 r4).bind fun t5 =>
        fX7_table_J102 v1 v2 (0 : Int32) ((r2 * ((10 : Int32) - r3)) - t5) x.2.2
      else
        fX7_table_J102 v1 v2 x.1 x.2.1 x.2.2
def fX7_table_J147 (a_all : Nat → Int32) (s_many : Int32) (v1 : Int32) (v2 : Int32)  : Option ((Int32 × (Nat → Int32) × Int32) ⊕ ((Nat → Int32) × Int32)) :=
  some (.inl ((v2 + 1), a_all, s_many))
def fX7_table_B21  (v1 : Int32) (x : (Int32 × (Nat → Int32) × Int32)) : Option ((Int32 × (Nat → Int32) × Int32) ⊕ ((Nat → Int32) × Int32)) :=
  (fX7_ten v1).bind fun r1 =>
  if r1 ≤ x.1 then
    some (.inr (x.2.1, x.2.2))
  else
    (it (fX7_table_B37 v1 x.1) FU ((1 : Int32), (0 : Int32), (0 : Int32))).bind fun y2 =>
    if y2.1 = 0 then
      fX7_table_J147 x.2.1 x.2.2 v1 (x.1 + (y2.2 - (1 : Int32)))
    else
      (fX7_isTree x.1 v1).bind fun r3 =>
      if r3 = 0 then
        fX7_table_J147 x.2.1 x.2.2 v1 x.1
      else
        (wr 429 x.2.1 x.2.2 x.1).bind fun u4 =>
        fX7_table_J147 u4 (x.2.2 + (1 : Int32)) v1 x.1
def fX7_table (a_all : Nat → Int32) (s_many : Int32) (s_tableOf : Int32) (v1 : Int32) : Option ((Nat → Int32) × Int32 × Int32) :=
  if s_tableOf = v1 then
    some (a_all, s_many, s_tableOf)
  else
    (it (fX7_table_B21 v1) FU ((0 : Int32), a_all, (0 : Int32))).bind fun y1 =>
    some (y1.1, y1.2, v1)
def fX7_numberOf_B7 (a_all : Nat → Int32) (s_many : Int32) (s_tableOf : Int32) (v1 : Int32) (x : Int32) : Option (Int32 ⊕ (Unit ⊕ (Int32 × (Nat → Int32) × Int32 × Int32))) :=
  if s_many ≤ x then
    some (.inr (.inl ()))
  else
    (rd 429 a_all x).bind fun t1 =>
    if t1 = v1 then
      some (.inr (.inr (x, a_all, s_many, s_tableOf)))
    else
      some (.inl (x + 1))
def fX7_numberOf (a_all : Nat → Int32) (s_many : Int32) (s_tableOf : Int32) (v1 : Int32) (v2 : Int32) : Option (Int32 × (Nat → Int32) × Int32 × Int32) :=
  (fX7_table a_all s_many s_tableOf v2).bind fun r1 =>
  (it (fX7_numberOf_B7 r1.1 r1.2.1 r1.2.2 v1) FU (0 : Int32)).bind (Sum.elim (fun y2 =>
    some ((-1 : Int32), r1.1, r1.2.1, r1.2.2)) some)
def fX7_reads_B12  (v1 : Int32) (v2 : Int32) (v3 : Int32) (v4 : Int32) (v5 : Int32) (v6 : Int32) (x : Int32) : Option (Int32 ⊕ Int32) :=
  (fX7_at v1 v2 x).bind fun r1 =>
  if v4 < ((x + r1) + (1 : Int32)) then
    some (.inr x)
  else
    (fX7_at v1 v2 x).bind fun r2 =>
    some (.inl (x + (r2 + (1 : Int32))))
def fX7_reads : Nat → (Nat → Int32) → (Nat → Int32) → (Nat → Int32) → (Nat → Int32) → (Nat → Int32) → Int32 → Int32 → Int32 → Int32 → Int32 → Int32 → Option (Int32 × (Nat → Int32) × (Nat → Int32) × (Nat → Int32) × (Nat → Int32) × (Nat → Int32))
  | 0, _, _, _, _, _, _, _, _, _, _, _ => none
  | d + 1, a_parent, a_left, a_right, a_leftSize, a_above, v1, v2, v3, v4, v5, v6 =>
    if v3 ≤ v4 then
      (it (fX7_reads_B12 v1 v2 v3 v4 v5 v6) FU v3).bind fun y1 =>
      (wr 7 a_parent y1 v5).bind fun u2 =>
      (wr 7 a_above y1 v6).bind fun u3 =>
      (wr 7 a_leftSize y1 (y1 - v3)).bind fun u4 =>
      (fX7_reads d u2 a_left a_right u4 u3 v1 v2 v3 (y1 - (1 : Int32)) y1 (v6 + (1 : Int32))).bind fun r5 =>
      (wr 7 r5.2.2.1 y1 r5.1).bind fun u6 =>
      (fX7_reads d r5.2.1 u6 r5.2.2.2.1 r5.2.2.2.2.1 r5.2.2.2.2.2 v1 v2 (y1 + (1 : Int32)) v4 y1 (v6 + (1 : Int32))).bind fun r7 =>
      (wr 7 r7.2.2.2.1 y1 r7.1).bind fun u8 =>
      some (y1, r7.2.1, r7.2.2.1, u8, r7.2.2.2.2.1, r7.2.2.2.2.2)
    else
      some ((-5 : Int32), a_parent, a_left, a_right, a_leftSize, a_above)
def fX7_looks (a_parent : Nat → Int32) (a_left : Nat → Int32) (a_right : Nat → Int32) (a_leftSize : Nat → Int32) (a_above : Nat → Int32) (s_read : Int32) (v1 : Int32) (v2 : Int32) : Option ((Nat → Int32) × (Nat → Int32) × (Nat → Int32) × (Nat → Int32) × (Nat → Int32) × Int32) :=
  (fX7_reads 16 a_parent a_left a_right a_leftSize a_above v1 v2 (0 : Int32) (v2 - (1 : Int32)) (-5 : Int32) (0 : Int32)).bind fun r1 =>
  some (r1.2.1, r1.2.2.1, r1.2.2.2.1, r1.2.2.2.2.1, r1.2.2.2.2.2, r1.1)
def fX7_up (a_parent : Nat → Int32) (a_left : Nat → Int32) (a_right : Nat → Int32) (a_leftSize : Nat → Int32) (a_above : Nat → Int32) (s_read : Int32) (v1 : Int32) (v2 : Int32) (v3 : Int32) : Option (Int32 × (Nat → Int32) × (Nat → Int32) × (Nat → Int32) × (Nat → Int32) × (Nat → Int32) × Int32) :=
  (fX7_looks a_parent a_left a_right a_leftSize a_above s_read v1 v2).bind fun r1 =>
  (rd 7 r1.1 v3).bind fun t2 =>
  if t2 = (-5 : Int32) then
    some ((-5 : Int32), r1.1, r1.2.1, r1.2.2.1, r1.2.2.2.1, r1.2.2.2.2.1, r1.2.2.2.2.2)
  else
    (rd 7 r1.2.1 t2).bind fun t3 =>
    if t3 = v3 then
      (fX7_at v1 v2 v3).bind fun r4 =>
      (fX7_at v1 v2 t2).bind fun r5 =>
      (fX7_with v1 v2 v3 ((r4 + (1 : Int32)) + r5)).bind fun r6 =>
      some (r6, r1.1, r1.2.1, r1.2.2.1, r1.2.2.2.1, r1.2.2.2.2.1, r1.2.2.2.2.2)
    else
      some ((-5 : Int32), r1.1, r1.2.1, r1.2.2.1, r1.2.2.2.1, r1.2.2.2.2.1, r1.2.2.2.2.2)
def fX7_down (a_parent : Nat → Int32) (a_left : Nat → Int32) (a_right : Nat → Int32) (a_leftSize : Nat → Int32) (a_above : Nat → Int32) (s_read : Int32) (v1 : Int32) (v2 : Int32) (v3 : Int32) : Option (Int32 × (Nat → Int32) × (Nat → Int32) × (Nat → Int32) × (Nat → Int32) × (Nat → Int32) × Int32) :=
  (fX7_looks a_parent a_left a_right a_leftSize a_above s_read v1 v2).bind fun r1 =>
  (rd 7 r1.2.2.1 v3).bind fun t2 =>
  if t2 = (-5 : Int32) then
    some ((-5 : Int32), r1.1, r1.2.1, r1.2.2.1, r1.2.2.2.1, r1.2.2.2.2.1, r1.2.2.2.2.2)
  else
    (rd 7 r1.2.2.1 v3).bind fun t3 =>
    (fX7_with v1 v2 v3 ((t3 - v3) - (1 : Int32))).bind fun r4 =>
    some (r4, r1.1, r1.2.1, r1.2.2.1, r1.2.2.2.1, r1.2.2.2.2.1, r1.2.2.2.2.2)
def fX7_mirrored_B11 (a_leftSize : Nat → Int32) (v2 : Int32) (x : (Int32 × Int32)) : Option ((Int32 × Int32) ⊕ Int32) :=
  if v2 ≤ x.2 then
    some (.inr x.1)
  else
    (rd 7 a_leftSize ((v2 - (1 : Int32)) - x.2)).bind fun t1 =>
    some (.inl ((((10 : Int32) * x.1) + t1), (x.2 + 1)))
def fX7_mirrored (a_parent : Nat → Int32) (a_left : Nat → Int32) (a_right : Nat → Int32) (a_leftSize : Nat → Int32) (a_above : Nat → Int32) (s_read : Int32) (v1 : Int32) (v2 : Int32) : Option (Int32 × (Nat → Int32) × (Nat → Int32) × (Nat → Int32) × (Nat → Int32) × (Nat → Int32) × Int32) :=
  (fX7_looks a_parent a_left a_right a_leftSize a_above s_read v1 v2).bind fun r1 =>
  (it (fX7_mirrored_B11 r1.2.2.2.1 v2) FU ((0 : Int32), (0 : Int32))).bind fun y2 =>
  some (y2, r1.1, r1.2.1, r1.2.2.1, r1.2.2.2.1, r1.2.2.2.2.1, r1.2.2.2.2.2)
def fX7_isBelow_B2  (v0 : Int32) (v1 : Int32) (v2 : Int32) (x : Int32) : Option (Int32 ⊕ (Unit ⊕ Int32)) :=
  if v2 ≤ x then
    some (.inr (.inl ()))
  else
    (fX7_at v0 v2 x).bind fun r1 =>
    (fX7_at v1 v2 x).bind fun r2 =>
    if r1 ≤ r2 then
      some (.inl (x + 1))
    else
      some (.inr (.inr (0 : Int32)))
def fX7_isBelow  (v0 : Int32) (v1 : Int32) (v2 : Int32) : Option Int32 :=
  (it (fX7_isBelow_B2 v0 v1 v2) FU (0 : Int32)).bind (Sum.elim (fun y1 =>
    some (1 : Int32)) some)
def fX7_becomes_J78 (a_stepNodes : Nat → Int32) (a_stepTree : Nat → Int32) (s_nodes : Int32) (s_tree : Int32) (s_steps : Int32) (v1 : Int32) (v2 : Int32)  : Option ((Nat → Int32) × (Nat → Int32) × Int32 × Int32 × Int32) :=
  (wr 10 a_stepNodes s_steps s_nodes).bind fun u1 =>
  (wr 10 a_stepTree s_steps s_tree).bind fun u2 =>
  some (u1, u2, v1, v2, (s_steps + (1 : Int32)))
def fX7_becomes_B28  (v1 : Int32) (v2 : Int32) (x : (Int32 × (Nat → Int32) × (Nat → Int32))) : Option ((Int32 × (Nat → Int32) × (Nat → Int32)) ⊕ ((Nat → Int32) × (Nat → Int32))) :=
  if (10 : Int32) ≤ x.1 then
    some (.inr (x.2.1, x.2.2))
  else
    (rd 10 x.2.1 x.1).bind fun t1 =>
    (wr 10 x.2.1 (x.1 - (1 : Int32)) t1).bind fun u2 =>
    (rd 10 x.2.2 x.1).bind fun t3 =>
    (wr 10 x.2.2 (x.1 - (1 : Int32)) t3).bind fun u4 =>
    some (.inl ((x.1 + 1), u2, u4))
def fX7_becomes_J17 (a_stepNodes : Nat → Int32) (a_stepTree : Nat → Int32) (s_nodes : Int32) (s_tree : Int32) (s_steps : Int32) (v1 : Int32) (v2 : Int32)  : Option ((Nat → Int32) × (Nat → Int32) × Int32 × Int32 × Int32) :=
  if s_steps = (10 : Int32) then
    (it (fX7_becomes_B28 v1 v2) FU ((1 : Int32), a_stepNodes, a_stepTree)).bind fun y1 =>
    fX7_becomes_J78 y1.1 y1.2 s_nodes s_tree (s_steps - (1 : Int32)) v1 v2
  else
    fX7_becomes_J78 a_stepNodes a_stepTree s_nodes s_tree s_steps v1 v2
def fX7_becomes (a_stepNodes : Nat → Int32) (a_stepTree : Nat → Int32) (s_nodes : Int32) (s_tree : Int32) (s_steps : Int32) (v1 : Int32) (v2 : Int32) : Option ((Nat → Int32) × (Nat → Int32) × Int32 × Int32 × Int32) :=
  if v1 = s_nodes then
    if v2 = s_tree then
      some (a_stepNodes, a_stepTree, s_nodes, s_tree, s_steps)
    else
      fX7_becomes_J17 a_stepNodes a_stepTree s_nodes s_tree s_steps v1 v2
  else
    fX7_becomes_J17 a_stepNodes a_stepTree s_nodes s_tree s_steps v1 v2
def fX7_isNode (s_nodes : Int32) (v1 : Int32) : Option Int32 :=
  (fX7_in (v1.toInt64) (0 : Int64) (((s_nodes - (1 : Int32))).toInt64)).bind fun r1 =>
  (zro r1).bind fun z2 =>
  some z2
def fX7_nodes (s_nodes : Int32) (s_tree : Int32) (s_steps : Int32) (v1 : Int32) : Option (Int32 × Int32 × Int32 × Int32) :=
  (fX7_in (v1.toInt64) (1 : Int64) (7 : Int64)).bind fun r1 =>
  if r1 = 0 then
    some ((-2 : Int32), s_nodes, s_tree, s_steps)
  else
    some (s_nodes, v1, (0 : Int32), (0 : Int32))
def fX7_which (a_all : Nat → Int32) (s_nodes : Int32) (s_tree : Int32) (s_many : Int32) (s_tableOf : Int32)  : Option (Int32 × (Nat → Int32) × Int32 × Int32) :=
  (fX7_numberOf a_all s_many s_tableOf s_tree s_nodes).bind fun r1 =>
  some (r1.1, r1.2.1, r1.2.2.1, r1.2.2.2)
def fX7_row (a_stepNodes : Nat → Int32) (a_stepTree : Nat → Int32) (a_all : Nat → Int32) (s_nodes : Int32) (s_tree : Int32) (s_steps : Int32) (s_many : Int32) (s_tableOf : Int32) (v1 : Int32) : Option (Int32 × (Nat → Int32) × (Nat → Int32) × (Nat → Int32) × Int32 × Int32 × Int32 × Int32 × Int32) :=
  (fX7_isTree v1 s_nodes).bind fun r1 =>
  if r1 = 0 then
    some ((-2 : Int32), a_stepNodes, a_stepTree, a_all, s_nodes, s_tree, s_steps, s_many, s_tableOf)
  else
    (fX7_becomes a_stepNodes a_stepTree s_nodes s_tree s_steps s_nodes v1).bind fun r2 =>
    (fX7_which a_all r2.2.2.1 r2.2.2.2.1 s_many s_tableOf).bind fun r3 =>
    some (r3.1, r2.1, r2.2.1, r3.2.1, r2.2.2.1, r2.2.2.2.1, r2.2.2.2.2, r3.2.2.1, r3.2.2.2)
def fX7_of (a_parent : Nat → Int32) (a_left : Nat → Int32) (a_right : Nat → Int32) (a_leftSize : Nat → Int32) (a_above : Nat → Int32) (s_nodes : Int32) (s_tree : Int32) (s_read : Int32) (v1 : Int32) (v2 : Int32) : Option (Int32 × (Nat → Int32) × (Nat → Int32) × (Nat → Int32) × (Nat → Int32) × (Nat → Int32) × Int32) :=
  (fX7_isNode s_nodes v1).bind fun r1 =>
  if r1 = 0 then
    some ((-1 : Int32), a_parent, a_left, a_right, a_leftSize, a_above, s_read)
  else
    (fX7_in (v2.toInt64) (0 : Int64) (5 : Int64)).bind fun r2 =>
    if r2 = 0 then
      some ((-1 : Int32), a_parent, a_left, a_right, a_leftSize, a_above, s_read)
    else
      (fX7_looks a_parent a_left a_right a_leftSize a_above s_read s_tree s_nodes).bind fun r3 =>
      if v2 = 0 then
        (fX7_at s_tree s_nodes v1).bind fun r4 =>
        some (r4, r3.1, r3.2.1, r3.2.2.1, r3.2.2.2.1, r3.2.2.2.2.1, r3.2.2.2.2.2)
      else
        if v2 = 1 then
          (rd 7 r3.1 v1).bind fun t5 =>
          some (t5, r3.1, r3.2.1, r3.2.2.1, r3.2.2.2.1, r3.2.2.2.2.1, r3.2.2.2.2.2)
        else
          if v2 = 2 then
            (rd 7 r3.2.1 v1).bind fun t6 =>
            some (t6, r3.1, r3.2.1, r3.2.2.1, r3.2.2.2.1, r3.2.2.2.2.1, r3.2.2.2.2.2)
          else
            if v2 = 3 then
              (rd 7 r3.2.2.1 v1).bind fun t7 =>
              some (t7, r3.1, r3.2.1, r3.2.2.1, r3.2.2.2.1, r3.2.2.2.2.1, r3.2.2.2.2.2)
            else
              if v2 = 4 then
                (rd 7 r3.2.2.2.1 v1).bind fun t8 =>
                some (t8, r3.1, r3.2.1, r3.2.2.1, r3.2.2.2.1, r3.2.2.2.2.1, r3.2.2.2.2.2)
              else
                (rd 7 r3.2.2.2.2.1 v1).bind fun t9 =>
                some (t9, r3.1, r3.2.1, r3.2.2.1, r3.2.2.2.1, r3.2.2.2.2.1, r3.2.2.2.2.2)
def fX7_number (a_stepNodes : Nat → Int32) (a_stepTree : Nat → Int32) (a_all : Nat → Int32) (s_nodes : Int32) (s_tree : Int32) (s_steps : Int32) (s_many : Int32) (s_tableOf : Int32) (v1 : Int32) : Option (Int32 × (Nat → Int32) × (Nat → Int32) × (Nat → Int32) × Int32 × Int32 × Int32 × Int32 × Int32) :=
  (fX7_table a_all s_many s_tableOf s_nodes).bind fun r1 =>
  (fX7_in (v1.toInt64) (0 : Int64) (((r1.2.1 - (1 : Int32))).toInt64)).bind fun r2 =>
  if r2 = 0 then
    some ((-1 : Int32), a_stepNodes, a_stepTree, r1.1, s_nodes, s_tree, s_steps, r1.2.1, r1.2.2)
  else
    (fX7_which r1.1 s_nodes s_tree r1.2.1 r1.2.2).bind fun r3 =>
    (rd 429 r3.2.1 v1).bind fun t4 =>
    (fX7_becomes a_stepNodes a_stepTree s_nodes s_tree s_steps s_nodes t4).bind fun r5 =>
    some (r3.1, r5.1, r5.2.1, r3.2.1, r5.2.2.1, r5.2.2.2.1, r5.2.2.2.2, r3.2.2.1, r3.2.2.2)
def fX7_many (a_all : Nat → Int32) (s_many : Int32) (s_tableOf : Int32) (v1 : Int32) : Option (Int32 × (Nat → Int32) × Int32 × Int32) :=
  (fX7_in (v1.toInt64) (1 : Int64) (7 : Int64)).bind fun r1 =>
  if r1 = 0 then
    some ((-2 : Int32), a_all, s_many, s_tableOf)
  else
    (fX7_table a_all s_many s_tableOf v1).bind fun r2 =>
    some (r2.2.1, r2.1, r2.2.1, r2.2.2)
def fX7_digits (s_tree : Int32)  : Option Int32 :=
  some s_tree
def fX7_turn (a_stepNodes : Nat → Int32) (a_stepTree : Nat → Int32) (a_all : Nat → Int32) (a_parent : Nat → Int32) (a_left : Nat → Int32) (a_right : Nat → Int32) (a_leftSize : Nat → Int32) (a_above : Nat → Int32) (s_nodes : Int32) (s_tree : Int32) (s_steps : Int32) (s_many : Int32) (s_tableOf : Int32) (s_read : Int32) (v1 : Int32) : Option (Int32 × (Nat → Int32) × (Nat → Int32) × (Nat → Int32) × (Nat → Int32) × (Nat → Int32) × (Nat → Int32) × (Nat → Int32) × (Nat → Int32) × Int32 × Int32 × Int32 × Int32 × Int32 × Int32) :=
  (fX7_isNode s_nodes v1).bind fun r1 =>
  if r1 = 0 then
    some ((-1 : Int32), a_stepNodes, a_stepTree, a_all, a_parent, a_left, a_right, a_leftSize, a_above, s_nodes, s_tree, s_steps, s_many, s_tableOf, s_read)
  else
    (fX7_up a_parent a_left a_right a_leftSize a_above s_read s_tree s_nodes v1).bind fun r2 =>
    if r2.1 = (-5 : Int32) then
      some ((-5 : Int32), a_stepNodes, a_stepTree, a_all, r2.2.1, r2.2.2.1, r2.2.2.2.1, r2.2.2.2.2.1, r2.2.2.2.2.2.1, s_nodes, s_tree, s_steps, s_many, s_tableOf, r2.2.2.2.2.2.2)
    else
      (fX7_becomes a_stepNodes a_stepTree s_nodes s_tree s_steps s_nodes r2.1).bind fun r3 =>
      (fX7_which a_all r3.2.2.1 r3.2.2.2.1 s_many s_tableOf).bind fun r4 =>
      some (r4.1, r3.1, r3.2.1, r4.2.1, r2.2.1, r2.2.2.1, r2.2.2.2.1, r2.2.2.2.2.1, r2.2.2.2.2.2.1, r3.2.2.1, r3.2.2.2.1, r3.2.2.2.2, r4.2.2.1, r4.2.2.2, r2.2.2.2.2.2.2)
def fX7_back (a_stepNodes : Nat → Int32) (a_stepTree : Nat → Int32) (a_all : Nat → Int32) (a_parent : Nat → Int32) (a_left : Nat → Int32) (a_right : Nat → Int32) (a_leftSize : Nat → Int32) (a_above : Nat → Int32) (s_nodes : Int32) (s_tree : Int32) (s_steps : Int32) (s_many : Int32) (s_tableOf : Int32) (s_read : Int32) (v1 : Int32) : Option (Int32 × (Nat → Int32) × (Nat → Int32) × (Nat → Int32) × (Nat → Int32) × (Nat → Int32) × (Nat → Int32) × (Nat → Int32) × (Nat → Int32) × Int32 × Int32 × Int32 × Int32 × Int32 × Int32) :=
  (fX7_isNode s_nodes v1).bind fun r1 =>
  if r1 = 0 then
    some ((-1 : Int32), a_stepNodes, a_stepTree, a_all, a_parent, a_left, a_right, a_leftSize, a_above, s_nodes, s_tree, s_steps, s_many, s_tableOf, s_read)
  else
    (fX7_down a_parent a_left a_right a_leftSize a_above s_read s_tree s_nodes v1).bind fun r2 =>
    if r2.1 = (-5 : Int32) then
      some ((-5 : Int32), a_stepNodes, a_stepTree, a_all, r2.2.1, r2.2.2.1, r2.2.2.2.1, r2.2.2.2.2.1, r2.2.2.2.2.2.1, s_nodes, s_tree, s_steps, s_many, s_tableOf, r2.2.2.2.2.2.2)
    else
      (fX7_becomes a_stepNodes a_stepTree s_nodes s_tree s_steps s_nodes r2.1).bind fun r3 =>
      (fX7_which a_all r3.2.2.1 r3.2.2.2.1 s_many s_tableOf).bind fun r4 =>
      some (r4.1, r3.1, r3.2.1, r4.2.1, r2.2.1, r2.2.2.1, r2.2.2.2.1, r2.2.2.2.2.1, r2.2.2.2.2.2.1, r3.2.2.1, r3.2.2.2.1, r3.2.2.2.2, r4.2.2.1, r4.2.2.2, r2.2.2.2.2.2.2)
def fX7_mayTurn_J72 (a_parent : Nat → Int32) (a_left : Nat → Int32) (a_right : Nat → Int32) (a_leftSize : Nat → Int32) (a_above : Nat → Int32) (s_nodes : Int32) (s_tree : Int32) (s_read : Int32) (v1 : Int32) (v2 : Int32) (v3 : Int32)  : Option ((Int32 × Int32 × (Nat → Int32) × (Nat → Int32) × (Nat → Int32) × (Nat → Int32) × (Nat → Int32) × Int32) ⊕ (Int32 × (Nat → Int32) × (Nat → Int32) × (Nat → Int32) × (Nat → Int32) × (Nat → Int32) × Int32)) :=
  some (.inl (v2, (v3 + 1), a_parent, a_left, a_right, a_leftSize, a_above, s_read))
def fX7_mayTurn_J61 (a_parent : Nat → Int32) (a_left : Nat → Int32) (a_right : Nat → Int32) (a_leftSize : Nat → Int32) (a_above : Nat → Int32) (s_nodes : Int32) (s_tree : Int32) (s_read : Int32) (v1 : Int32) (v2 : Int32) (v3 : Int32) (k0 : Int32) : Option ((Int32 × Int32 × (Nat → Int32) × (Nat → Int32) × (Nat → Int32) × (Nat → Int32) × (Nat → Int32) × Int32) ⊕ (Int32 × (Nat → Int32) × (Nat → Int32) × (Nat → Int32) × (Nat → Int32) × (Nat → Int32) × Int32)) :=
  if k0 = (-5 : Int32) then
    fX7_mayTurn_J72 a_parent a_left a_right a_leftSize a_above s_nodes s_tree s_read v1 v2 v3
  else
    fX7_mayTurn_J72 a_parent a_left a_right a_leftSize a_above s_nodes s_tree s_read v1 (v2 ||| ((1 : Int32) <<< (v3 &&& 31))) v3
def fX7_mayTurn_B18 (s_nodes : Int32) (s_tree : Int32) (v1 : Int32) (x : (Int32 × Int32 × (Nat → Int32) × (Nat → Int32) × (Nat → Int32) × (Nat → Int32) × (Nat → Int32) × Int32)) : Option ((Int32 × Int32 × (Nat → Int32) × (Nat → Int32) × (Nat → Int32) × (Nat → Int32) × (Nat → Int32) × Int32) ⊕ (Int32 × (Nat → Int32) × (Nat → Int32) × (Nat → Int32) × (Nat → Int32) × (Nat → Int32) × Int32)) :=
  if s_nodes ≤ x.2.1 then
    some (.inr (x.1, x.2.2.1, x.2.2.2.1, x.2.2.2.2.1, x.2.2.2.2.2.1, x.2.2.2.2.2.2.1, x.2.2.2.2.2.2.2))
  else
    (rmo v1 (2 : Int32)).bind fun t1 =>
    if t1 = 0 then
      (fX7_up x.2.2.1 x.2.2.2.1 x.2.2.2.2.1 x.2.2.2.2.2.1 x.2.2.2.2.2.2.1 x.2.2.2.2.2.2.2 s_tree s_nodes x.2.1).bind fun r3 =>
      fX7_mayTurn_J61 r3.2.1 r3.2.2.1 r3.2.2.2.1 r3.2.2.2.2.1 r3.2.2.2.2.2.1 s_nodes s_tree r3.2.2.2.2.2.2 v1 x.1 x.2.1 r3.1
    else
      (fX7_down x.2.2.1 x.2.2.2.1 x.2.2.2.2.1 x.2.2.2.2.2.1 x.2.2.2.2.2.2.1 x.2.2.2.2.2.2.2 s_tree s_nodes x.2.1).bind fun r2 =>
      fX7_mayTurn_J61 r2.2.1 r2.2.2.1 r2.2.2.2.1 r2.2.2.2.2.1 r2.2.2.2.2.2.1 s_nodes s_tree r2.2.2.2.2.2.2 v1 x.1 x.2.1 r2.1
def fX7_mayTurn (a_parent : Nat → Int32) (a_left : Nat → Int32) (a_right : Nat → Int32) (a_leftSize : Nat → Int32) (a_above : Nat → Int32) (s_nodes : Int32) (s_tree : Int32) (s_read : Int32) (v1 : Int32) : Option (Int32 × (Nat → Int32) × (Nat → Int32) × (Nat → Int32) × (Nat → Int32) × (Nat → Int32) × Int32) :=
  (fX7_in (v1.toInt64) (0 : Int64) (3 : Int64)).bind fun r1 =>
  if r1 = 0 then
    some ((-1 : Int32), a_parent, a_left, a_right, a_leftSize, a_above, s_read)
  else
    (it (fX7_mayTurn_B18 s_nodes s_tree v1) FU ((0 : Int32), (0 : Int32), a_parent, a_left, a_right, a_leftSize, a_above, s_read)).bind fun y2 =>
    if (2 : Int32) ≤ v1 then
      some (y2.1, y2.2.1, y2.2.2.1, y2.2.2.2.1, y2.2.2.2.2.1, y2.2.2.2.2.2.1, y2.2.2.2.2.2.2)
    else
      (fJ0_bitCount y2.1).bind fun r3 =>
      some (r3, y2.2.1, y2.2.2.1, y2.2.2.2.1, y2.2.2.2.2.1, y2.2.2.2.2.2.1, y2.2.2.2.2.2.2)
def fX7_mirror (a_stepNodes : Nat → Int32) (a_stepTree : Nat → Int32) (a_all : Nat → Int32) (a_parent : Nat → Int32) (a_left : Nat → Int32) (a_right : Nat → Int32) (a_leftSize : Nat → Int32) (a_above : Nat → Int32) (s_nodes : Int32) (s_tree : Int32) (s_steps : Int32) (s_many : Int32) (s_tableOf : Int32) (s_read : Int32)  : Option (Int32 × (Nat → Int32) × (Nat → Int32) × (Nat → Int32) × (Nat → Int32) × (Nat → Int32) × (Nat → Int32) × (Nat → Int32) × (Nat → Int32) × Int32 × Int32 × Int32 × Int32 × Int32 × Int32) :=
  (fX7_mirrored a_parent a_left a_right a_leftSize a_above s_read s_tree s_nodes).bind fun r1 =>
  (fX7_becomes a_stepNodes a_stepTree s_nodes s_tree s_steps s_nodes r1.1).bind fun r2 =>
  (fX7_which a_all r2.2.2.1 r2.2.2.2.1 s_many s_tableOf).bind fun r3 =>
  some (r3.1, r2.1, r2.2.1, r3.2.1, r1.2.1, r1.2.2.1, r1.2.2.2.1, r1.2.2.2.2.1, r1.2.2.2.2.2.1, r2.2.2.1, r2.2.2.2.1, r2.2.2.2.2, r3.2.2.1, r3.2.2.2, r1.2.2.2.2.2.2)
def fX7_off (a_stepNodes : Nat → Int32) (a_stepTree : Nat → Int32) (s_nodes : Int32) (s_tree : Int32) (s_steps : Int32)  : Option (Int32 × Int32 × Int32 × Int32) :=
  if s_steps = 0 then
    some ((-3 : Int32), s_nodes, s_tree, s_steps)
  else
    (rd 10 a_stepNodes (s_steps - (1 : Int32))).bind fun t1 =>
    (rd 10 a_stepTree (s_steps - (1 : Int32))).bind fun t2 =>
    some ((s_steps - (1 : Int32)), t1, t2, (s_steps - (1 : Int32)))
def fX7_isShelf  (v0 : Int32) : Option Int32 :=
  (fX7_in (v0.toInt64) (0 : Int64) (3 : Int64)).bind fun r1 =>
  (zro r1).bind fun z2 =>
  some z2
def fX7_barOf (a_shelfNodes : Nat → Int32) (s_nodes : Int32) (v1 : Int32) : Option Int32 :=
  (rd 4 a_shelfNodes v1).bind fun t1 =>
  if t1 = 0 then
    some (-6 : Int32)
  else
    (rd 4 a_shelfNodes v1).bind fun t2 =>
    if t2 = s_nodes then
      some (0 : Int32)
    else
      some (-7 : Int32)
def fX7_below_J72 (a_shelfNodes : Nat → Int32) (a_shelfTree : Nat → Int32) (s_nodes : Int32) (s_tree : Int32)  (k0 : Int32) : Option Int32 :=
  if k0 = 0 then
    some (0 : Int32)
  else
    some (1 : Int32)
def fX7_below (a_shelfNodes : Nat → Int32) (a_shelfTree : Nat → Int32) (s_nodes : Int32) (s_tree : Int32) (v1 : Int32) (v2 : Int32) : Option Int32 :=
  (fX7_isShelf v1).bind fun r1 =>
  if r1 = 0 then
    some (-1 : Int32)
  else
    (fX7_in (v2.toInt64) (0 : Int64) (1 : Int64)).bind fun r2 =>
    if r2 = 0 then
      some (-1 : Int32)
    else
      (fX7_barOf a_shelfNodes s_nodes v1).bind fun r3 =>
      if r3 = 0 then
        if v2 = 0 then
          (rd 4 a_shelfTree v1).bind fun t6 =>
          (fX7_isBelow s_tree t6 s_nodes).bind fun r7 =>
          fX7_below_J72 a_shelfNodes a_shelfTree s_nodes s_tree r7
        else
          (rd 4 a_shelfTree v1).bind fun t4 =>
          (fX7_isBelow t4 s_tree s_nodes).bind fun r5 =>
          fX7_below_J72 a_shelfNodes a_shelfTree s_nodes s_tree r5
      else
        some r3
def fX7_bound_J153 (a_all : Nat → Int32) (s_nodes : Int32) (s_many : Int32) (v1 : Int32) (v2 : Int32) (v3 : Int32) (v4 : Int32) (v5 : Int32)  : Option ((Int32 × Int32) ⊕ Int32) :=
  some (.inl (v4, (v5 + 1)))
def fX7_bound_J149 (a_all : Nat → Int32) (s_nodes : Int32) (s_many : Int32) (v1 : Int32) (v2 : Int32) (v3 : Int32) (v5 : Int32) (v6 : Int32)  : Option ((Int32 × Int32) ⊕ Int32) :=
  fX7_bound_J153 a_all s_nodes s_many v1 v2 v3 v6 v5
def fX7_bound_J101 (a_all : Nat → Int32) (s_nodes : Int32) (s_many : Int32) (v1 : Int32) (v2 : Int32) (v3 : Int32) (v4 : Int32) (v5 : Int32) (v6 : Int32) (k0 : Int32) : Option ((Int32 × Int32) ⊕ Int32) :=
  if k0 = 0 then
    fX7_bound_J153 a_all s_nodes s_many v1 v2 v3 v4 v5
  else
    if v4 = (-1 : Int32) then
      fX7_bound_J149 a_all s_nodes s_many v1 v2 v3 v5 v6
    else
      if v3 = 0 then
        (fX7_isBelow v6 v4 s_nodes).bind fun r1 =>
        if r1 = 0 then
          fX7_bound_J153 a_all s_nodes s_many v1 v2 v3 v4 v5
        else
          fX7_bound_J149 a_all s_nodes s_many v1 v2 v3 v5 v6
      else
        (fX7_isBelow v4 v6 s_nodes).bind fun r2 =>
        if r2 = 0 then
          fX7_bound_J153 a_all s_nodes s_many v1 v2 v3 v4 v5
        else
          fX7_bound_J149 a_all s_nodes s_many v1 v2 v3 v5 v6
def fX7_bound_J100 (a_all : Nat → Int32) (s_nodes : Int32) (s_many : Int32) (v1 : Int32) (v2 : Int32) (v3 : Int32) (v4 : Int32) (v5 : Int32) (v6 : Int32)  : Option ((Int32 × Int32) ⊕ Int32) :=
  fX7_bound_J101 a_all s_nodes s_many v1 v2 v3 v4 v5 v6 (0 : Int32)
def fX7_bound_J66 (a_all : Nat → Int32) (s_nodes : Int32) (s_many : Int32) (v1 : Int32) (v2 : Int32) (v3 : Int32) (v4 : Int32) (v5 : Int32) (v6 : Int32)  : Option ((Int32 × Int32) ⊕ Int32) :=
  fX7_bound_J101 a_all s_nodes s_many v1 v2 v3 v4 v5 v6 (0 : Int32)
def fX7_bound_B14 (a_all : Nat → Int32) (s_nodes : Int32) (s_many : Int32) (v1 : Int32) (v2 : Int32) (v3 : Int32) (x : (Int32 × Int32)) : Option ((Int32 × Int32) ⊕ Int32) :=
  if s_many ≤ x.2 then
    some (.inr x.1)
  else
    (rd 429 a_all x.2).bind fun t1 =>
    if v3 = 0 then
      (fX7_isBelow v1 t1 s_nodes).bind fun r2 =>
      if r2 = 0 then
        fX7_bound_J100 a_all s_nodes s_many v1 v2 v3 x.1 x.2 t1
      else
        (fX7_isBelow v2 t1 s_nodes).bind fun r3 =>
        if r3 = 0 then
          fX7_bound_J100 a_all s_nodes s_many v1 v2 v3 x.1 x.2 t1
        else
          fX7_bound_J101 a_all s_nodes s_many v1 v2 v3 x.1 x.2 t1 (1 : Int32)
    else
      (fX7_isBelow t1 v1 s_nodes).bind fun r4 =>
      if r4 = 0 then
        fX7_bound_J66 a_all s_nodes s_many v1 v2 v3 x.1 x.2 t1
      else
        (fX7_isBelow t1 v2 s_nodes).bind fun r5 =>
        if r5 = 0 then
          fX7_bound_J66 a_all s_nodes s_many v1 v2 v3 x.1 x.2 t1
        else
          fX7_bound_J101 a_all s_nodes s_many v1 v2 v3 x.1 x.2 t1 (1 : Int32)
def fX7_bound (a_all : Nat → Int32) (s_nodes : Int32) (s_many : Int32) (s_tableOf : Int32) (v1 : Int32) (v2 : Int32) (v3 : Int32) : Option (Int32 × (Nat → Int32) × Int32 × Int32) :=
  (fX7_table a_all s_many s_tableOf s_nodes).bind fun r1 =>
  (it (fX7_bound_B14 r1.1 s_nodes r1.2.1 v1 v2 v3) FU ((-1 : Int32), (0 : Int32))).bind fun y2 =>
  some (y2, r1.1, r1.2.1, r1.2.2)
def fX7_meet_J52 (a_shelfNodes : Nat → Int32) (a_shelfTree : Nat → Int32) (a_all : Nat → Int32) (s_nodes : Int32) (s_tree : Int32) (s_many : Int32) (s_tableOf : Int32)  (k0 : Int32) (k1 : Int32) (k2 : Int32) : Option (Int32 × (Nat → Int32) × Int32 × Int32) :=
  (fX7_bound a_all s_nodes s_many s_tableOf k2 k1 k0).bind fun r1 =>
  (fX7_numberOf r1.2.1 r1.2.2.1 r1.2.2.2 r1.1 s_nodes).bind fun r2 =>
  some (r2.1, r2.2.1, r2.2.2.1, r2.2.2.2)
def fX7_meet (a_shelfNodes : Nat → Int32) (a_shelfTree : Nat → Int32) (a_all : Nat → Int32) (s_nodes : Int32) (s_tree : Int32) (s_many : Int32) (s_tableOf : Int32) (v1 : Int32) (v2 : Int32) : Option (Int32 × (Nat → Int32) × Int32 × Int32) :=
  (fX7_isShelf v1).bind fun r1 =>
  if r1 = 0 then
    some ((-1 : Int32), a_all, s_many, s_tableOf)
  else
    (fX7_in (v2.toInt64) (0 : Int64) (1 : Int64)).bind fun r2 =>
    if r2 = 0 then
      some ((-1 : Int32), a_all, s_many, s_tableOf)
    else
      (fX7_barOf a_shelfNodes s_nodes v1).bind fun r3 =>
      if r3 = 0 then
        (rd 4 a_shelfTree v1).bind fun t4 =>
        if v2 = 0 then
          fX7_meet_J52 a_shelfNodes a_shelfTree a_all s_nodes s_tree s_many s_tableOf (1 : Int32) t4 s_tree
        else
          fX7_meet_J52 a_shelfNodes a_shelfTree a_all s_nodes s_tree s_many s_tableOf (0 : Int32) t4 s_tree
      else
        some (r3, a_all, s_many, s_tableOf)
def fX7_meetAll_J58 (a_shelfNodes : Nat → Int32) (a_shelfTree : Nat → Int32) (a_all : Nat → Int32) (s_nodes : Int32) (s_many : Int32) (s_tableOf : Int32) (v1 : Int32) (v2 : Int32) (v3 : Int32)  : Option ((Int32 × Int32 × (Nat → Int32) × Int32 × Int32) ⊕ (Int32 × (Nat → Int32) × Int32 × Int32)) :=
  some (.inl (v2, (v3 + 1), a_all, s_many, s_tableOf))
def fX7_meetAll_J54 (a_shelfNodes : Nat → Int32) (a_shelfTree : Nat → Int32) (a_all : Nat → Int32) (s_nodes : Int32) (s_many : Int32) (s_tableOf : Int32) (v1 : Int32) (v3 : Int32) (k0 : Int32) (k1 : Int32) (k2 : Int32) : Option ((Int32 × Int32 × (Nat → Int32) × Int32 × Int32) ⊕ (Int32 × (Nat → Int32) × Int32 × Int32)) :=
  (fX7_bound a_all s_nodes s_many s_tableOf k2 k1 k0).bind fun r1 =>
  fX7_meetAll_J58 a_shelfNodes a_shelfTree r1.2.1 s_nodes r1.2.2.1 r1.2.2.2 v1 r1.1 v3
def fX7_meetAll_B19 (a_shelfNodes : Nat → Int32) (a_shelfTree : Nat → Int32) (s_nodes : Int32) (v1 : Int32) (x : (Int32 × Int32 × (Nat → Int32) × Int32 × Int32)) : Option ((Int32 × Int32 × (Nat → Int32) × Int32 × Int32) ⊕ (Int32 × (Nat → Int32) × Int32 × Int32)) :=
  if (4 : Int32) ≤ x.2.1 then
    some (.inr (x.1, x.2.2.1, x.2.2.2.1, x.2.2.2.2))
  else
    (rd 4 a_shelfNodes x.2.1).bind fun t1 =>
    if t1 = s_nodes then
      (rd 4 a_shelfTree x.2.1).bind fun t2 =>
      if v1 = 0 then
        fX7_meetAll_J54 a_shelfNodes a_shelfTree x.2.2.1 s_nodes x.2.2.2.1 x.2.2.2.2 v1 x.2.1 (1 : Int32) t2 x.1
      else
        fX7_meetAll_J54 a_shelfNodes a_shelfTree x.2.2.1 s_nodes x.2.2.2.1 x.2.2.2.2 v1 x.2.1 (0 : Int32) t2 x.1
    else
      fX7_meetAll_J58 a_shelfNodes a_shelfTree x.2.2.1 s_nodes x.2.2.2.1 x.2.2.2.2 v1 x.1 x.2.1
def fX7_meetAll (a_shelfNodes : Nat → Int32) (a_shelfTree : Nat → Int32) (a_all : Nat → Int32) (s_nodes : Int32) (s_tree : Int32) (s_many : Int32) (s_tableOf : Int32) (v1 : Int32) : Option (Int32 × (Nat → Int32) × Int32 × Int32) :=
  (fX7_in (v1.toInt64) (0 : Int64) (1 : Int64)).bind fun r1 =>
  if r1 = 0 then
    some ((-1 : Int32), a_all, s_many, s_tableOf)
  else
    (it (fX7_meetAll_B19 a_shelfNodes a_shelfTree s_nodes v1) FU (s_tree, (0 : Int32), a_all, s_many, s_tableOf)).bind fun y2 =>
    (fX7_numberOf y2.2.1 y2.2.2.1 y2.2.2.2 y2.1 s_nodes).bind fun r3 =>
    some (r3.1, r3.2.1, r3.2.2.1, r3.2.2.2)
def fX7_isBetween (s_nodes : Int32) (v1 : Int32) (v2 : Int32) (v3 : Int32) : Option Int32 :=
  (fX7_isBelow v2 v1 s_nodes).bind fun r1 =>
  if r1 = 0 then
    some (0 : Int32)
  else
    (fX7_isBelow v1 v3 s_nodes).bind fun r2 =>
    if r2 = 0 then
      some (0 : Int32)
    else
      some (1 : Int32)
def fX7_between_J88 (a_shelfTree : Nat → Int32) (a_all : Nat → Int32) (s_nodes : Int32) (s_tree : Int32) (s_many : Int32) (s_tableOf : Int32) (v1 : Int32) (v2 : Int32) (v4 : Int32) (v5 : Int32)  : Option ((Int32 × Int32) ⊕ (Int32 ⊕ (Int32 × (Nat → Int32) × Int32 × Int32))) :=
  some (.inl (v4, (v5 + 1)))
def fX7_between_B40 (a_shelfTree : Nat → Int32) (a_all : Nat → Int32) (s_nodes : Int32) (s_tree : Int32) (s_many : Int32) (s_tableOf : Int32) (v1 : Int32) (v2 : Int32) (x : (Int32 × Int32)) : Option ((Int32 × Int32) ⊕ (Int32 ⊕ (Int32 × (Nat → Int32) × Int32 × Int32))) :=
  if s_many ≤ x.2 then
    some (.inr (.inl x.1))
  else
    (rd 429 a_all x.2).bind fun t1 =>
    (rd 4 a_shelfTree v1).bind fun t2 =>
    (fX7_isBetween s_nodes t1 s_tree t2).bind fun r3 =>
    if r3 = 0 then
      fX7_between_J88 a_shelfTree a_all s_nodes s_tree s_many s_tableOf v1 v2 x.1 x.2
    else
      if x.1 = v2 then
        some (.inr (.inr (x.2, a_all, s_many, s_tableOf)))
      else
        fX7_between_J88 a_shelfTree a_all s_nodes s_tree s_many s_tableOf v1 v2 (x.1 + 1) x.2
def fX7_between (a_shelfNodes : Nat → Int32) (a_shelfTree : Nat → Int32) (a_all : Nat → Int32) (s_nodes : Int32) (s_tree : Int32) (s_many : Int32) (s_tableOf : Int32) (v1 : Int32) (v2 : Int32) : Option (Int32 × (Nat → Int32) × Int32 × Int32) :=
  (fX7_isShelf v1).bind fun r1 =>
  if r1 = 0 then
    some ((-1 : Int32), a_all, s_many, s_tableOf)
  else
    if (-1 : Int32) ≤ v2 then
      (fX7_barOf a_shelfNodes s_nodes v1).bind fun r2 =>
      if r2 = 0 then
        (fX7_table a_all s_many s_tableOf s_nodes).bind fun r3 =>
        (it (fX7_between_B40 a_shelfTree r3.1 s_nodes s_tree r3.2.1 r3.2.2 v1 v2) FU ((0 : Int32), (0 : Int32))).bind (Sum.elim (fun y4 =>
          if v2 = (-1 : Int32) then
            some (y4, r3.1, r3.2.1, r3.2.2)
          else
            some ((-1 : Int32), r3.1, r3.2.1, r3.2.2)) some)
      else
        some (r2, a_all, s_many, s_tableOf)
    else
      some ((-1 : Int32), a_all, s_many, s_tableOf)
def fX7_measure_B10 (s_many : Int32) (v1 : Int32) (v2 : Int32) (x : (Int32 × (Nat → Int32))) : Option ((Int32 × (Nat → Int32)) ⊕ (Nat → Int32)) :=
  if s_many ≤ x.1 then
    some (.inr x.2)
  else
    (wr 429 x.2 x.1 (-1 : Int32)).bind fun u1 =>
    some (.inl ((x.1 + 1), u1))
def fX7_measure_J221 (a_all : Nat → Int32) (a_parent : Nat → Int32) (a_left : Nat → Int32) (a_right : Nat → Int32) (a_leftSize : Nat → Int32) (a_above : Nat → Int32) (a_dist : Nat → Int32) (a_queue : Nat → Int32) (s_nodes : Int32) (s_many : Int32) (s_tableOf : Int32) (s_read : Int32) (v2 : Int32) (v4 : Int32) (v5 : Int32) (v6 : Int32) (v7 : Int32) (v8 : Int32)  : Option ((Int32 × Int32 × (Nat → Int32) × (Nat → Int32) × (Nat → Int32) × (Nat → Int32) × (Nat → Int32) × (Nat → Int32) × (Nat → Int32) × (Nat → Int32) × Int32 × Int32 × Int32) ⊕ (Int32 × (Nat → Int32) × (Nat → Int32) × (Nat → Int32) × (Nat → Int32) × (Nat → Int32) × (Nat → Int32) × (Nat → Int32) × (Nat → Int32) × Int32 × Int32 × Int32)) :=
  some (.inl (v4, (v8 + 1), a_all, a_parent, a_left, a_right, a_leftSize, a_above, a_dist, a_queue, s_many, s_tableOf, s_read))
def fX7_measure_J171 (a_all : Nat → Int32) (a_parent : Nat → Int32) (a_left : Nat → Int32) (a_right : Nat → Int32) (a_leftSize : Nat → Int32) (a_above : Nat → Int32) (a_dist : Nat → Int32) (a_queue : Nat → Int32) (s_nodes : Int32) (s_many : Int32) (s_tableOf : Int32) (s_read : Int32) (v2 : Int32) (v4 : Int32) (v5 : Int32) (v6 : Int32) (v7 : Int32) (v8 : Int32) (k0 : Int32) : Option ((Int32 × Int32 × (Nat → Int32) × (Nat → Int32) × (Nat → Int32) × (Nat → Int32) × (Nat → Int32) × (Nat → Int32) × (Nat → Int32) × (Nat → Int32) × Int32 × Int32 × Int32) ⊕ (Int32 × (Nat → Int32) × (Nat → Int32) × (Nat → Int32) × (Nat → Int32) × (Nat → Int32) × (Nat → Int32) × (Nat → Int32) × (Nat → Int32) × Int32 × Int32 × Int32)) :=
  if k0 = (-1 : Int32) then
    fX7_measure_J221 a_all a_parent a_left a_right a_leftSize a_above a_dist a_queue s_nodes s_many s_tableOf s_read v2 v4 v5 v6 v7 v8
  else
    (rd 429 a_dist k0).bind fun t1 =>
    if t1 = (-1 : Int32) then
      (rd 429 a_dist v6).bind fun t2 =>
      (wr 429 a_dist k0 (t2 + (1 : Int32))).bind fun u3 =>
      (wr 429 a_queue v4 k0).bind fun u4 =>
      fX7_measure_J221 a_all a_parent a_left a_right a_leftSize a_above u3 u4 s_nodes s_many s_tableOf s_read v2 (v4 + 1) v5 v6 v7 v8
    else
      fX7_measure_J221 a_all a_parent a_left a_right a_leftSize a_above a_dist a_queue s_nodes s_many s_tableOf s_read v2 v4 v5 v6 v7 v8
def fX7_measure_J148 (a_all : Nat → Int32) (a_parent : Nat → Int32) (a_left : Nat → Int32) (a_right : Nat → Int32) (a_leftSize : Nat → Int32) (a_above : Nat → Int32) (a_dist : Nat → Int32) (a_queue : Nat → Int32) (s_nodes : Int32) (s_many : Int32) (s_tableOf : Int32) (s_read : Int32) (v2 : Int32) (v4 : Int32) (v5 : Int32) (v6 : Int32) (v7 : Int32) (v8 : Int32) (k0 : Int32) : Option ((Int32 × Int32 × (Nat → Int32) × (Nat → Int32) × (Nat → Int32) × (Nat → Int32) × (Nat → Int32) × (Nat → Int32) × (Nat → Int32) × (Nat → Int32) × Int32 × Int32 × Int32) ⊕ (Int32 × (Nat → Int32) × (Nat → Int32) × (Nat → Int32) × (Nat → Int32) × (Nat → Int32) × (Nat → Int32) × (Nat → Int32) × (Nat → Int32) × Int32 × Int32 × Int32)) :=
  if k0 = (-5 : Int32) then
    fX7_measure_J171 a_all a_parent a_left a_right a_leftSize a_above a_dist a_queue s_nodes s_many s_tableOf s_read v2 v4 v5 v6 v7 v8 (-1 : Int32)
  else
    (fX7_numberOf a_all s_many s_tableOf k0 s_nodes).bind fun r1 =>
    fX7_measure_J171 r1.2.1 a_parent a_left a_right a_leftSize a_above a_dist a_queue s_nodes r1.2.2.1 r1.2.2.2 s_read v2 v4 v5 v6 v7 v8 r1.1
def fX7_measure_J103 (a_all : Nat → Int32) (a_parent : Nat → Int32) (a_left : Nat → Int32) (a_right : Nat → Int32) (a_leftSize : Nat → Int32) (a_above : Nat → Int32) (a_dist : Nat → Int32) (a_queue : Nat → Int32) (s_nodes : Int32) (s_many : Int32) (s_tableOf : Int32) (s_read : Int32) (v2 : Int32) (v4 : Int32) (v5 : Int32) (v6 : Int32) (v7 : Int32) (v8 : Int32) (k0 : Int32) (k1 : Int32) : Option ((Int32 × Int32 × (Nat → Int32) × (Nat → Int32) × (Nat → Int32) × (Nat → Int32) × (Nat → Int32) × (Nat → Int32) × (Nat → Int32) × (Nat → Int32) × Int32 × Int32 × Int32) ⊕ (Int32 × (Nat → Int32) × (Nat → Int32) × (Nat → Int32) × (Nat → Int32) × (Nat → Int32) × (Nat → Int32) × (Nat → Int32) × (Nat → Int32) × Int32 × Int32 × Int32)) :=
  if k0 ≤ k1 then
    some (.inr (v4, a_all, a_parent, a_left, a_right, a_leftSize, a_above, a_dist, a_queue, s_many, s_tableOf, s_read))
  else
    if v8 = 0 then
      (rd 429 a_all v6).bind fun t3 =>
      (fX7_up a_parent a_left a_right a_leftSize a_above s_read t3 s_nodes v7).bind fun r4 =>
      fX7_measure_J148 a_all r4.2.1 r4.2.2.1 r4.2.2.2.1 r4.2.2.2.2.1 r4.2.2.2.2.2.1 a_dist a_queue s_nodes s_many s_tableOf r4.2.2.2.2.2.2 v2 v4 v5 v6 v7 v8 r4.1
    else
      (rd 429 a_all v6).bind fun t1 =>
      (fX7_down a_parent a_left a_right a_leftSize a_above s_read t1 s_nodes v7).bind fun r2 =>
      fX7_measure_J148 a_all r2.2.1 r2.2.2.1 r2.2.2.2.1 r2.2.2.2.2.1 r2.2.2.2.2.2.1 a_dist a_queue s_nodes s_many s_tableOf r2.2.2.2.2.2.2 v2 v4 v5 v6 v7 v8 r2.1
def fX7_measure_B92 (s_nodes : Int32) (v2 : Int32) (v5 : Int32) (v6 : Int32) (v7 : Int32) (x : (Int32 × Int32 × (Nat → Int32) × (Nat → Int32) × (Nat → Int32) × (Nat → Int32) × (Nat → Int32) × (Nat → Int32) × (Nat → Int32) × (Nat → Int32) × Int32 × Int32 × Int32)) : Option ((Int32 × Int32 × (Nat → Int32) × (Nat → Int32) × (Nat → Int32) × (Nat → Int32) × (Nat → Int32) × (Nat → Int32) × (Nat → Int32) × (Nat → Int32) × Int32 × Int32 × Int32) ⊕ (Int32 × (Nat → Int32) × (Nat → Int32) × (Nat → Int32) × (Nat → Int32) × (Nat → Int32) × (Nat → Int32) × (Nat → Int32) × (Nat → Int32) × Int32 × Int32 × Int32)) :=
  if v2 = 0 then
    fX7_measure_J103 x.2.2.1 x.2.2.2.1 x.2.2.2.2.1 x.2.2.2.2.2.1 x.2.2.2.2.2.2.1 x.2.2.2.2.2.2.2.1 x.2.2.2.2.2.2.2.2.1 x.2.2.2.2.2.2.2.2.2.1 s_nodes x.2.2.2.2.2.2.2.2.2.2.1 x.2.2.2.2.2.2.2.2.2.2.2.1 x.2.2.2.2.2.2.2.2.2.2.2.2 v2 x.1 v5 v6 v7 x.2.1 (2 : Int32) x.2.1
  else
    fX7_measure_J103 x.2.2.1 x.2.2.2.1 x.2.2.2.2.1 x.2.2.2.2.2.1 x.2.2.2.2.2.2.1 x.2.2.2.2.2.2.2.1 x.2.2.2.2.2.2.2.2.1 x.2.2.2.2.2.2.2.2.2.1 s_nodes x.2.2.2.2.2.2.2.2.2.2.1 x.2.2.2.2.2.2.2.2.2.2.2.1 x.2.2.2.2.2.2.2.2.2.2.2.2 v2 x.1 v5 v6 v7 x.2.1 (1 : Int32) x.2.1
def fX7_measure_B80 (s_nodes : Int32) (v2 : Int32) (v5 : Int32) (v6 : Int32) (x : (Int32 × Int32 × (Nat → Int32) × (Nat → Int32) × (Nat → Int32) × (Nat → Int32) × (Nat → Int32) × (Nat → Int32) × (Nat → Int32) × (Nat → Int32) × Int32 × Int32 × Int32)) : Option ((Int32 × Int32 × (Nat → Int32) × (Nat → Int32) × (Nat → Int32) × (Nat → Int32) × (Nat → Int32) × (Nat → Int32) × (Nat → Int32) × (Nat → Int32) × Int32 × Int32 × Int32) ⊕ (Int32 × (Nat → Int32) × (Nat → Int32) × (Nat → Int32) × (Nat → Int32) × (Nat → Int32) × (Nat → Int32) × (Nat → Int32) × (Nat → Int32) × Int32 × Int32 × Int32)) :=
  if s_nodes ≤ x.2.1 then
    some (.inr (x.1, x.2.2.1, x.2.2.2.1, x.2.2.2.2.1, x.2.2.2.2.2.1, x.2.2.2.2.2.2.1, x.2.2.2.2.2.2.2.1, x.2.2.2.2.2.2.2.2.1, x.2.2.2.2.2.2.2.2.2.1, x.2.2.2.2.2.2.2.2.2.2.1, x.2.2.2.2.2.2.2.2.2.2.2.1, x.2.2.2.2.2.2.2.2.2.2.2.2))
  else
    (it (fX7_measure_B92 s_nodes v2 v5 v6 x.2.1) FU (x.1, (0 : Int32), x.2.2.1, x.2.2.2.1, x.2.2.2.2.1, x.2.2.2.2.2.1, x.2.2.2.2.2.2.1, x.2.2.2.2.2.2.2.1, x.2.2.2.2.2.2.2.2.1, x.2.2.2.2.2.2.2.2.2.1, x.2.2.2.2.2.2.2.2.2.2.1, x.2.2.2.2.2.2.2.2.2.2.2.1, x.2.2.2.2.2.2.2.2.2.2.2.2)).bind fun y1 =>
    some (.inl (y1.1, (x.2.1 + 1), y1.2.1, y1.2.2.1, y1.2.2.2.1, y1.2.2.2.2.1, y1.2.2.2.2.2.1, y1.2.2.2.2.2.2.1, y1.2.2.2.2.2.2.2.1, y1.2.2.2.2.2.2.2.2.1, y1.2.2.2.2.2.2.2.2.2.1, y1.2.2.2.2.2.2.2.2.2.2.1, y1.2.2.2.2.2.2.2.2.2.2.2))
def fX7_measure_B61 (s_nodes : Int32) (v2 : Int32) (x : (Int32 × Int32 × (Nat → Int32) × (Nat → Int32) × (Nat → Int32) × (Nat → Int32) × (Nat → Int32) × (Nat → Int32) × (Nat → Int32) × (Nat → Int32) × Int32 × Int32 × Int32)) : Option ((Int32 × Int32 × (Nat → Int32) × (Nat → Int32) × (Nat → Int32) × (Nat → Int32) × (Nat → Int32) × (Nat → Int32) × (Nat → Int32) × (Nat → Int32) × Int32 × Int32 × Int32) ⊕ ((Nat → Int32) × (Nat → Int32) × (Nat → Int32) × (Nat → Int32) × (Nat → Int32) × (Nat → Int32) × (Nat → Int32) × (Nat → Int32) × Int32 × Int32 × Int32)) :=
  if x.1 ≤ x.2.1 then
    some (.inr (x.2.2.1, x.2.2.2.1, x.2.2.2.2.1, x.2.2.2.2.2.1, x.2.2.2.2.2.2.1, x.2.2.2.2.2.2.2.1, x.2.2.2.2.2.2.2.2.1, x.2.2.2.2.2.2.2.2.2.1, x.2.2.2.2.2.2.2.2.2.2.1, x.2.2.2.2.2.2.2.2.2.2.2.1, x.2.2.2.2.2.2.2.2.2.2.2.2))
  else
    (rd 429 x.2.2.2.2.2.2.2.2.2.1 x.2.1).bind fun t1 =>
    (it (fX7_measure_B80 s_nodes v2 x.2.1 t1) FU (x.1, (0 : Int32), x.2.2.1, x.2.2.2.1, x.2.2.2.2.1, x.2.2.2.2.2.1, x.2.2.2.2.2.2.1, x.2.2.2.2.2.2.2.1, x.2.2.2.2.2.2.2.2.1, x.2.2.2.2.2.2.2.2.2.1, x.2.2.2.2.2.2.2.2.2.2.1, x.2.2.2.2.2.2.2.2.2.2.2.1, x.2.2.2.2.2.2.2.2.2.2.2.2)).bind fun y2 =>
    some (.inl (y2.1, (x.2.1 + 1), y2.2.1, y2.2.2.1, y2.2.2.2.1, y2.2.2.2.2.1, y2.2.2.2.2.2.1, y2.2.2.2.2.2.2.1, y2.2.2.2.2.2.2.2.1, y2.2.2.2.2.2.2.2.2.1, y2.2.2.2.2.2.2.2.2.2.1, y2.2.2.2.2.2.2.2.2.2.2.1, y2.2.2.2.2.2.2.2.2.2.2.2))
def fX7_measure (a_all : Nat → Int32) (a_parent : Nat → Int32) (a_left : Nat → Int32) (a_right : Nat → Int32) (a_leftSize : Nat → Int32) (a_above : Nat → Int32) (a_dist : Nat → Int32) (a_queue : Nat → Int32) (s_nodes : Int32) (s_many : Int32) (s_tableOf : Int32) (s_read : Int32) (v1 : Int32) (v2 : Int32) : Option ((Nat → Int32) × (Nat → Int32) × (Nat → Int32) × (Nat → Int32) × (Nat → Int32) × (Nat → Int32) × (Nat → Int32) × (Nat → Int32) × Int32 × Int32 × Int32) :=
  (fX7_table a_all s_many s_tableOf s_nodes).bind fun r1 =>
  (it (fX7_measure_B10 r1.2.1 v1 v2) FU ((0 : Int32), a_dist)).bind fun y2 =>
  (fX7_numberOf r1.1 r1.2.1 r1.2.2 v1 s_nodes).bind fun r3 =>
  (wr 429 y2 r3.1 (0 : Int32)).bind fun u4 =>
  (wr 429 a_queue (0 : Int32) r3.1).bind fun u5 =>
  (it (fX7_measure_B61 s_nodes v2) FU ((1 : Int32), (0 : Int32), r3.2.1, a_parent, a_left, a_right, a_leftSize, a_above, u4, u5, r3.2.2.1, r3.2.2.2, s_read)).bind fun y6 =>
  some (y6.1, y6.2.1, y6.2.2.1, y6.2.2.2.1, y6.2.2.2.2.1, y6.2.2.2.2.2.1, y6.2.2.2.2.2.2.1, y6.2.2.2.2.2.2.2.1, y6.2.2.2.2.2.2.2.2.1, y6.2.2.2.2.2.2.2.2.2.1, y6.2.2.2.2.2.2.2.2.2.2)
def fX7_firstTurn_J108 (a_all : Nat → Int32) (a_parent : Nat → Int32) (a_left : Nat → Int32) (a_right : Nat → Int32) (a_leftSize : Nat → Int32) (a_above : Nat → Int32) (a_dist : Nat → Int32) (s_nodes : Int32) (s_many : Int32) (s_tableOf : Int32) (s_read : Int32) (v1 : Int32) (v2 : Int32) (v3 : Int32) (v4 : Int32)  : Option ((Int32 × (Nat → Int32) × (Nat → Int32) × (Nat → Int32) × (Nat → Int32) × (Nat → Int32) × (Nat → Int32) × Int32 × Int32 × Int32) ⊕ (((Nat → Int32) × (Nat → Int32) × (Nat → Int32) × (Nat → Int32) × (Nat → Int32) × (Nat → Int32) × Int32 × Int32 × Int32) ⊕ (Int32 × (Nat → Int32) × (Nat → Int32) × (Nat → Int32) × (Nat → Int32) × (Nat → Int32) × (Nat → Int32) × Int32 × Int32 × Int32))) :=
  some (.inl ((v4 + 1), a_all, a_parent, a_left, a_right, a_leftSize, a_above, s_many, s_tableOf, s_read))
def fX7_firstTurn_J70 (a_all : Nat → Int32) (a_parent : Nat → Int32) (a_left : Nat → Int32) (a_right : Nat → Int32) (a_leftSize : Nat → Int32) (a_above : Nat → Int32) (a_dist : Nat → Int32) (s_nodes : Int32) (s_many : Int32) (s_tableOf : Int32) (s_read : Int32) (v1 : Int32) (v2 : Int32) (v3 : Int32) (v4 : Int32) (k0 : Int32) : Option ((Int32 × (Nat → Int32) × (Nat → Int32) × (Nat → Int32) × (Nat → Int32) × (Nat → Int32) × (Nat → Int32) × Int32 × Int32 × Int32) ⊕ (((Nat → Int32) × (Nat → Int32) × (Nat → Int32) × (Nat → Int32) × (Nat → Int32) × (Nat → Int32) × Int32 × Int32 × Int32) ⊕ (Int32 × (Nat → Int32) × (Nat → Int32) × (Nat → Int32) × (Nat → Int32) × (Nat → Int32) × (Nat → Int32) × Int32 × Int32 × Int32))) :=
  if k0 = (-5 : Int32) then
    fX7_firstTurn_J108 a_all a_parent a_left a_right a_leftSize a_above a_dist s_nodes s_many s_tableOf s_read v1 v2 v3 v4
  else
    (fX7_numberOf a_all s_many s_tableOf k0 s_nodes).bind fun r1 =>
    (rd 429 a_dist r1.1).bind fun t2 =>
    if t2 = (v2 - (1 : Int32)) then
      some (.inr (.inr ((((100 : Int32) * v3) + v4), r1.2.1, a_parent, a_left, a_right, a_leftSize, a_above, r1.2.2.1, r1.2.2.2, s_read)))
    else
      fX7_firstTurn_J108 r1.2.1 a_parent a_left a_right a_leftSize a_above a_dist s_nodes r1.2.2.1 r1.2.2.2 s_read v1 v2 v3 v4
def fX7_firstTurn_B32 (a_dist : Nat → Int32) (s_nodes : Int32) (v1 : Int32) (v2 : Int32) (v3 : Int32) (x : (Int32 × (Nat → Int32) × (Nat → Int32) × (Nat → Int32) × (Nat → Int32) × (Nat → Int32) × (Nat → Int32) × Int32 × Int32 × Int32)) : Option ((Int32 × (Nat → Int32) × (Nat → Int32) × (Nat → Int32) × (Nat → Int32) × (Nat → Int32) × (Nat → Int32) × Int32 × Int32 × Int32) ⊕ (((Nat → Int32) × (Nat → Int32) × (Nat → Int32) × (Nat → Int32) × (Nat → Int32) × (Nat → Int32) × Int32 × Int32 × Int32) ⊕ (Int32 × (Nat → Int32) × (Nat → Int32) × (Nat → Int32) × (Nat → Int32) × (Nat → Int32) × (Nat → Int32) × Int32 × Int32 × Int32))) :=
  if s_nodes ≤ x.1 then
    some (.inr (.inl (x.2.1, x.2.2.1, x.2.2.2.1, x.2.2.2.2.1, x.2.2.2.2.2.1, x.2.2.2.2.2.2.1, x.2.2.2.2.2.2.2.1, x.2.2.2.2.2.2.2.2.1, x.2.2.2.2.2.2.2.2.2)))
  else
    if v3 = 0 then
      (fX7_up x.2.2.1 x.2.2.2.1 x.2.2.2.2.1 x.2.2.2.2.2.1 x.2.2.2.2.2.2.1 x.2.2.2.2.2.2.2.2.2 v1 s_nodes x.1).bind fun r2 =>
      fX7_firstTurn_J70 x.2.1 r2.2.1 r2.2.2.1 r2.2.2.2.1 r2.2.2.2.2.1 r2.2.2.2.2.2.1 a_dist s_nodes x.2.2.2.2.2.2.2.1 x.2.2.2.2.2.2.2.2.1 r2.2.2.2.2.2.2 v1 v2 v3 x.1 r2.1
    else
      (fX7_down x.2.2.1 x.2.2.2.1 x.2.2.2.2.1 x.2.2.2.2.2.1 x.2.2.2.2.2.2.1 x.2.2.2.2.2.2.2.2.2 v1 s_nodes x.1).bind fun r1 =>
      fX7_firstTurn_J70 x.2.1 r1.2.1 r1.2.2.1 r1.2.2.2.1 r1.2.2.2.2.1 r1.2.2.2.2.2.1 a_dist s_nodes x.2.2.2.2.2.2.2.1 x.2.2.2.2.2.2.2.2.1 r1.2.2.2.2.2.2 v1 v2 v3 x.1 r1.1
def fX7_firstTurn_B24 (a_dist : Nat → Int32) (s_nodes : Int32) (v1 : Int32) (v2 : Int32) (x : (Int32 × (Nat → Int32) × (Nat → Int32) × (Nat → Int32) × (Nat → Int32) × (Nat → Int32) × (Nat → Int32) × Int32 × Int32 × Int32)) : Option ((Int32 × (Nat → Int32) × (Nat → Int32) × (Nat → Int32) × (Nat → Int32) × (Nat → Int32) × (Nat → Int32) × Int32 × Int32 × Int32) ⊕ (((Nat → Int32) × (Nat → Int32) × (Nat → Int32) × (Nat → Int32) × (Nat → Int32) × (Nat → Int32) × Int32 × Int32 × Int32) ⊕ (Int32 × (Nat → Int32) × (Nat → Int32) × (Nat → Int32) × (Nat → Int32) × (Nat → Int32) × (Nat → Int32) × Int32 × Int32 × Int32))) :=
  if (2 : Int32) ≤ x.1 then
    some (.inr (.inl (x.2.1, x.2.2.1, x.2.2.2.1, x.2.2.2.2.1, x.2.2.2.2.2.1, x.2.2.2.2.2.2.1, x.2.2.2.2.2.2.2.1, x.2.2.2.2.2.2.2.2.1, x.2.2.2.2.2.2.2.2.2)))
  else
    (it (fX7_firstTurn_B32 a_dist s_nodes v1 v2 x.1) FU ((0 : Int32), x.2.1, x.2.2.1, x.2.2.2.1, x.2.2.2.2.1, x.2.2.2.2.2.1, x.2.2.2.2.2.2.1, x.2.2.2.2.2.2.2.1, x.2.2.2.2.2.2.2.2.1, x.2.2.2.2.2.2.2.2.2)).bind (Sum.elim (fun y1 =>
      some (.inl ((x.1 + 1), y1.1, y1.2.1, y1.2.2.1, y1.2.2.2.1, y1.2.2.2.2.1, y1.2.2.2.2.2.1, y1.2.2.2.2.2.2.1, y1.2.2.2.2.2.2.2.1, y1.2.2.2.2.2.2.2.2))) (fun q => some (.inr (.inr q))))
def fX7_firstTurn (a_all : Nat → Int32) (a_parent : Nat → Int32) (a_left : Nat → Int32) (a_right : Nat → Int32) (a_leftSize : Nat → Int32) (a_above : Nat → Int32) (a_dist : Nat → Int32) (s_nodes : Int32) (s_many : Int32) (s_tableOf : Int32) (s_read : Int32) (v1 : Int32) : Option (Int32 × (Nat → Int32) × (Nat → Int32) × (Nat → Int32) × (Nat → Int32) × (Nat → Int32) × (Nat → Int32) × Int32 × Int32 × Int32) :=
  (fX7_numberOf a_all s_many s_tableOf v1 s_nodes).bind fun r1 =>
  (rd 429 a_dist r1.1).bind fun t2 =>
  if t2 = 0 then
    some ((-5 : Int32), r1.2.1, a_parent, a_left, a_right, a_leftSize, a_above, r1.2.2.1, r1.2.2.2, s_read)
  else
    (it (fX7_firstTurn_B24 a_dist s_nodes v1 t2) FU ((0 : Int32), r1.2.1, a_parent, a_left, a_right, a_leftSize, a_above, r1.2.2.1, r1.2.2.2, s_read)).bind (Sum.elim (fun y3 =>
      some ((-5 : Int32), y3.1, y3.2.1, y3.2.2.1, y3.2.2.2.1, y3.2.2.2.2.1, y3.2.2.2.2.2.1, y3.2.2.2.2.2.2.1, y3.2.2.2.2.2.2.2.1, y3.2.2.2.2.2.2.2.2)) some)
def fX7_way (a_shelfNodes : Nat → Int32) (a_shelfTree : Nat → Int32) (a_all : Nat → Int32) (a_parent : Nat → Int32) (a_left : Nat → Int32) (a_right : Nat → Int32) (a_leftSize : Nat → Int32) (a_above : Nat → Int32) (a_dist : Nat → Int32) (a_queue : Nat → Int32) (s_nodes : Int32) (s_tree : Int32) (s_many : Int32) (s_tableOf : Int32) (s_read : Int32) (v1 : Int32) (v2 : Int32) : Option (Int32 × (Nat → Int32) × (Nat → Int32) × (Nat → Int32) × (Nat → Int32) × (Nat → Int32) × (Nat → Int32) × (Nat → Int32) × (Nat → Int32) × Int32 × Int32 × Int32) :=
  (fX7_isShelf v1).bind fun r1 =>
  if r1 = 0 then
    some ((-1 : Int32), a_all, a_parent, a_left, a_right, a_leftSize, a_above, a_dist, a_queue, s_many, s_tableOf, s_read)
  else
    (fX7_in (v2.toInt64) (0 : Int64) (1 : Int64)).bind fun r2 =>
    if r2 = 0 then
      some ((-1 : Int32), a_all, a_parent, a_left, a_right, a_leftSize, a_above, a_dist, a_queue, s_many, s_tableOf, s_read)
    else
      (fX7_barOf a_shelfNodes s_nodes v1).bind fun r3 =>
      if r3 = 0 then
        (rd 4 a_shelfTree v1).bind fun t4 =>
        (fX7_measure a_all a_parent a_left a_right a_leftSize a_above a_dist a_queue s_nodes s_many s_tableOf s_read t4 (0 : Int32)).bind fun r5 =>
        if v2 = 0 then
          (fX7_which r5.1 s_nodes s_tree r5.2.2.2.2.2.2.2.2.1 r5.2.2.2.2.2.2.2.2.2.1).bind fun r7 =>
          (rd 429 r5.2.2.2.2.2.2.1 r7.1).bind fun t8 =>
          some (t8, r7.2.1, r5.2.1, r5.2.2.1, r5.2.2.2.1, r5.2.2.2.2.1, r5.2.2.2.2.2.1, r5.2.2.2.2.2.2.1, r5.2.2.2.2.2.2.2.1, r7.2.2.1, r7.2.2.2, r5.2.2.2.2.2.2.2.2.2.2)
        else
          (fX7_firstTurn r5.1 r5.2.1 r5.2.2.1 r5.2.2.2.1 r5.2.2.2.2.1 r5.2.2.2.2.2.1 r5.2.2.2.2.2.2.1 s_nodes r5.2.2.2.2.2.2.2.2.1 r5.2.2.2.2.2.2.2.2.2.1 r5.2.2.2.2.2.2.2.2.2.2 s_tree).bind fun r6 =>
          some (r6.1, r6.2.1, r6.2.2.1, r6.2.2.2.1, r6.2.2.2.2.1, r6.2.2.2.2.2.1, r6.2.2.2.2.2.2.1, r5.2.2.2.2.2.2.1, r5.2.2.2.2.2.2.2.1, r6.2.2.2.2.2.2.2.1, r6.2.2.2.2.2.2.2.2.1, r6.2.2.2.2.2.2.2.2.2)
      else
        some (r3, a_all, a_parent, a_left, a_right, a_leftSize, a_above, a_dist, a_queue, s_many, s_tableOf, s_read)
def fX7_longest_J33 (a_all : Nat → Int32) (a_queue : Nat → Int32) (s_tree : Int32) (s_many : Int32) (v1 : Int32) (v2 : Int32) (k0 : Int32) (k1 : Int32) : Option ((Int32 × (Nat → Int32)) ⊕ (Nat → Int32)) :=
  (wr 429 a_queue k1 k0).bind fun u1 =>
  some (.inl ((v2 + 1), u1))
def fX7_longest_B2 (a_all : Nat → Int32) (s_tree : Int32) (s_many : Int32) (v1 : Int32) (x : (Int32 × (Nat → Int32))) : Option ((Int32 × (Nat → Int32)) ⊕ (Nat → Int32)) :=
  if s_many ≤ x.1 then
    some (.inr x.2)
  else
    (rd 429 a_all x.1).bind fun t1 =>
    if t1 = s_tree then
      fX7_longest_J33 a_all x.2 s_tree s_many v1 x.1 (0 : Int32) x.1
    else
      fX7_longest_J33 a_all x.2 s_tree s_many v1 x.1 (-1 : Int32) x.1
def fX7_longest_J137 (a_all : Nat → Int32) (a_parent : Nat → Int32) (a_left : Nat → Int32) (a_right : Nat → Int32) (a_leftSize : Nat → Int32) (a_above : Nat → Int32) (a_queue : Nat → Int32) (s_nodes : Int32) (s_many : Int32) (s_tableOf : Int32) (s_read : Int32) (v1 : Int32) (v2 : Int32) (v3 : Int32)  : Option ((Int32 × (Nat → Int32) × (Nat → Int32) × (Nat → Int32) × (Nat → Int32) × (Nat → Int32) × (Nat → Int32) × (Nat → Int32) × Int32 × Int32 × Int32) ⊕ ((Nat → Int32) × (Nat → Int32) × (Nat → Int32) × (Nat → Int32) × (Nat → Int32) × (Nat → Int32) × (Nat → Int32) × Int32 × Int32 × Int32)) :=
  some (.inl ((v3 + 1), a_all, a_parent, a_left, a_right, a_leftSize, a_above, a_queue, s_many, s_tableOf, s_read))
def fX7_longest_B65 (s_nodes : Int32) (v1 : Int32) (v2 : Int32) (x : (Int32 × (Nat → Int32) × (Nat → Int32) × (Nat → Int32) × (Nat → Int32) × (Nat → Int32) × (Nat → Int32) × (Nat → Int32) × Int32 × Int32 × Int32)) : Option ((Int32 × (Nat → Int32) × (Nat → Int32) × (Nat → Int32) × (Nat → Int32) × (Nat → Int32) × (Nat → Int32) × (Nat → Int32) × Int32 × Int32 × Int32) ⊕ ((Nat → Int32) × (Nat → Int32) × (Nat → Int32) × (Nat → Int32) × (Nat → Int32) × (Nat → Int32) × (Nat → Int32) × Int32 × Int32 × Int32)) :=
  if s_nodes ≤ x.1 then
    some (.inr (x.2.1, x.2.2.1, x.2.2.2.1, x.2.2.2.2.1, x.2.2.2.2.2.1, x.2.2.2.2.2.2.1, x.2.2.2.2.2.2.2.1, x.2.2.2.2.2.2.2.2.1, x.2.2.2.2.2.2.2.2.2.1, x.2.2.2.2.2.2.2.2.2.2))
  else
    (rd 429 x.2.1 v2).bind fun t1 =>
    (fX7_up x.2.2.1 x.2.2.2.1 x.2.2.2.2.1 x.2.2.2.2.2.1 x.2.2.2.2.2.2.1 x.2.2.2.2.2.2.2.2.2.2 t1 s_nodes x.1).bind fun r2 =>
    if r2.1 = (-5 : Int32) then
      fX7_longest_J137 x.2.1 r2.2.1 r2.2.2.1 r2.2.2.2.1 r2.2.2.2.2.1 r2.2.2.2.2.2.1 x.2.2.2.2.2.2.2.1 s_nodes x.2.2.2.2.2.2.2.2.1 x.2.2.2.2.2.2.2.2.2.1 r2.2.2.2.2.2.2 v1 v2 x.1
    else
      (fX7_numberOf x.2.1 x.2.2.2.2.2.2.2.2.1 x.2.2.2.2.2.2.2.2.2.1 r2.1 s_nodes).bind fun r3 =>
      (rd 429 x.2.2.2.2.2.2.2.1 r3.1).bind fun t4 =>
      (rd 429 x.2.2.2.2.2.2.2.1 v2).bind fun t5 =>
      (wr 429 x.2.2.2.2.2.2.2.1 r3.1 (if t4 < (t5 + (1 : Int32)) then (t5 + (1 : Int32)) else t4)).bind fun u6 =>
      fX7_longest_J137 r3.2.1 r2.2.1 r2.2.2.1 r2.2.2.2.1 r2.2.2.2.2.1 r2.2.2.2.2.2.1 u6 s_nodes r3.2.2.1 r3.2.2.2 r2.2.2.2.2.2.2 v1 v2 x.1
def fX7_longest_J143 (a_all : Nat → Int32) (a_parent : Nat → Int32) (a_left : Nat → Int32) (a_right : Nat → Int32) (a_leftSize : Nat → Int32) (a_above : Nat → Int32) (a_queue : Nat → Int32) (s_nodes : Int32) (s_many : Int32) (s_tableOf : Int32) (s_read : Int32) (v1 : Int32) (v2 : Int32)  : Option ((Int32 × (Nat → Int32) × (Nat → Int32) × (Nat → Int32) × (Nat → Int32) × (Nat → Int32) × (Nat → Int32) × (Nat → Int32) × Int32 × Int32 × Int32) ⊕ ((Nat → Int32) × (Nat → Int32) × (Nat → Int32) × (Nat → Int32) × (Nat → Int32) × (Nat → Int32) × (Nat → Int32) × Int32 × Int32 × Int32)) :=
  some (.inl ((v2 + 1), a_all, a_parent, a_left, a_right, a_leftSize, a_above, a_queue, s_many, s_tableOf, s_read))
def fX7_longest_B42 (s_nodes : Int32) (v1 : Int32) (x : (Int32 × (Nat → Int32) × (Nat → Int32) × (Nat → Int32) × (Nat → Int32) × (Nat → Int32) × (Nat → Int32) × (Nat → Int32) × Int32 × Int32 × Int32)) : Option ((Int32 × (Nat → Int32) × (Nat → Int32) × (Nat → Int32) × (Nat → Int32) × (Nat → Int32) × (Nat → Int32) × (Nat → Int32) × Int32 × Int32 × Int32) ⊕ ((Nat → Int32) × (Nat → Int32) × (Nat → Int32) × (Nat → Int32) × (Nat → Int32) × (Nat → Int32) × (Nat → Int32) × Int32 × Int32 × Int32)) :=
  if x.2.2.2.2.2.2.2.2.1 ≤ x.1 then
    some (.inr (x.2.1, x.2.2.1, x.2.2.2.1, x.2.2.2.2.1, x.2.2.2.2.2.1, x.2.2.2.2.2.2.1, x.2.2.2.2.2.2.2.1, x.2.2.2.2.2.2.2.2.1, x.2.2.2.2.2.2.2.2.2.1, x.2.2.2.2.2.2.2.2.2.2))
  else
    (rd 429 x.2.2.2.2.2.2.2.1 x.1).bind fun t1 =>
    if t1 = (-1 : Int32) then
      fX7_longest_J143 x.2.1 x.2.2.1 x.2.2.2.1 x.2.2.2.2.1 x.2.2.2.2.2.1 x.2.2.2.2.2.2.1 x.2.2.2.2.2.2.2.1 s_nodes x.2.2.2.2.2.2.2.2.1 x.2.2.2.2.2.2.2.2.2.1 x.2.2.2.2.2.2.2.2.2.2 v1 x.1
    else
      (it (fX7_longest_B65 s_nodes v1 x.1) FU ((0 : Int32), x.2.1, x.2.2.1, x.2.2.2.1, x.2.2.2.2.1, x.2.2.2.2.2.1, x.2.2.2.2.2.2.1, x.2.2.2.2.2.2.2.1, x.2.2.2.2.2.2.2.2.1, x.2.2.2.2.2.2.2.2.2.1, x.2.2.2.2.2.2.2.2.2.2)).bind fun y2 =>
      fX7_longest_J143 y2.1 y2.2.1 y2.2.2.1 y2.2.2.2.1 y2.2.2.2.2.1 y2.2.2.2.2.2.1 y2.2.2.2.2.2.2.1 s_nodes y2.2.2.2.2.2.2.2.1 y2.2.2.2.2.2.2.2.2.1 y2.2.2.2.2.2.2.2.2.2 v1 x.1
def fX7_longest (a_all : Nat → Int32) (a_parent : Nat → Int32) (a_left : Nat → Int32) (a_right : Nat → Int32) (a_leftSize : Nat → Int32) (a_above : Nat → Int32) (a_queue : Nat → Int32) (s_nodes : Int32) (s_tree : Int32) (s_many : Int32) (s_tableOf : Int32) (s_read : Int32) (v1 : Int32) : Option (Int32 × (Nat → Int32) × (Nat → Int32) × (Nat → Int32) × (Nat → Int32) × (Nat → Int32) × (Nat → Int32) × (Nat → Int32) × Int32 × Int32 × Int32) :=
  (it (fX7_longest_B2 a_all s_tree s_many v1) FU ((0 : Int32), a_queue)).bind fun y1 =>
  (it (fX7_longest_B42 s_nodes v1) FU ((0 : Int32), a_all, a_parent, a_left, a_right, a_leftSize, a_above, y1, s_many, s_tableOf, s_read)).bind fun y2 =>
  (fX7_numberOf y2.1 y2.2.2.2.2.2.2.2.1 y2.2.2.2.2.2.2.2.2.1 v1 s_nodes).bind fun r3 =>
  (rd 429 y2.2.2.2.2.2.2.1 r3.1).bind fun t4 =>
  some (t4, r3.2.1, y2.2.1, y2.2.2.1, y2.2.2.2.1, y2.2.2.2.2.1, y2.2.2.2.2.2.1, y2.2.2.2.2.2.2.1, r3.2.2.1, r3.2.2.2, y2.2.2.2.2.2.2.2.2.2)
def fX7_chain (a_shelfNodes : Nat → Int32) (a_shelfTree : Nat → Int32) (a_all : Nat → Int32) (a_parent : Nat → Int32) (a_left : Nat → Int32) (a_right : Nat → Int32) (a_leftSize : Nat → Int32) (a_above : Nat → Int32) (a_dist : Nat → Int32) (a_queue : Nat → Int32) (s_nodes : Int32) (s_tree : Int32) (s_many : Int32) (s_tableOf : Int32) (s_read : Int32) (v1 : Int32) (v2 : Int32) : Option (Int32 × (Nat → Int32) × (Nat → Int32) × (Nat → Int32) × (Nat → Int32) × (Nat → Int32) × (Nat → Int32) × (Nat → Int32) × (Nat → Int32) × Int32 × Int32 × Int32) :=
  (fX7_isShelf v1).bind fun r1 =>
  if r1 = 0 then
    some ((-1 : Int32), a_all, a_parent, a_left, a_right, a_leftSize, a_above, a_dist, a_queue, s_many, s_tableOf, s_read)
  else
    (fX7_in (v2.toInt64) (0 : Int64) (1 : Int64)).bind fun r2 =>
    if r2 = 0 then
      some ((-1 : Int32), a_all, a_parent, a_left, a_right, a_leftSize, a_above, a_dist, a_queue, s_many, s_tableOf, s_read)
    else
      (fX7_barOf a_shelfNodes s_nodes v1).bind fun r3 =>
      if r3 = 0 then
        (rd 4 a_shelfTree v1).bind fun t4 =>
        (fX7_isBelow s_tree t4 s_nodes).bind fun r5 =>
        if r5 = 0 then
          some ((-5 : Int32), a_all, a_parent, a_left, a_right, a_leftSize, a_above, a_dist, a_queue, s_many, s_tableOf, s_read)
        else
          (fX7_table a_all s_many s_tableOf s_nodes).bind fun r6 =>
          if v2 = (1 : Int32) then
            (rd 4 a_shelfTree v1).bind fun t11 =>
            (fX7_longest r6.1 a_parent a_left a_right a_leftSize a_above a_queue s_nodes s_tree r6.2.1 r6.2.2 s_read t11).bind fun r12 =>
            some (r12.1, r12.2.1, r12.2.2.1, r12.2.2.2.1, r12.2.2.2.2.1, r12.2.2.2.2.2.1, r12.2.2.2.2.2.2.1, a_dist, r12.2.2.2.2.2.2.2.1, r12.2.2.2.2.2.2.2.2.1, r12.2.2.2.2.2.2.2.2.2.1, r12.2.2.2.2.2.2.2.2.2.2)
          else
            (fX7_measure r6.1 a_parent a_left a_right a_leftSize a_above a_dist a_queue s_nodes r6.2.1 r6.2.2 s_read s_tree (1 : Int32)).bind fun r7 =>
            (rd 4 a_shelfTree v1).bind fun t8 =>
            (fX7_numberOf r7.1 r7.2.2.2.2.2.2.2.2.1 r7.2.2.2.2.2.2.2.2.2.1 t8 s_nodes).bind fun r9 =>
            (rd 429 r7.2.2.2.2.2.2.1 r9.1).bind fun t10 =>
            some (t10, r9.2.1, r7.2.1, r7.2.2.1, r7.2.2.2.1, r7.2.2.2.2.1, r7.2.2.2.2.2.1, r7.2.2.2.2.2.2.1, r7.2.2.2.2.2.2.2.1, r9.2.2.1, r9.2.2.2, r7.2.2.2.2.2.2.2.2.2.2)
      else
        some (r3, a_all, a_parent, a_left, a_right, a_leftSize, a_above, a_dist, a_queue, s_many, s_tableOf, s_read)
def fX7_mark_J190 (a_all : Nat → Int32) (a_marks : Nat → Int32) (s_nodes : Int32) (s_tree : Int32) (s_many : Int32) (v3 : Int32) (v4 : Int32)  : Option ((Int32 × (Nat → Int32)) ⊕ (Nat → Int32)) :=
  some (.inl ((v4 + 1), a_marks))
def fX7_mark_J184 (a_all : Nat → Int32) (a_marks : Nat → Int32) (s_nodes : Int32) (s_tree : Int32) (v3 : Int32) (v4 : Int32) (v5 : Int32)  : Option ((Int32 × (Nat → Int32)) ⊕ (Nat → Int32)) :=
  some (.inl ((v5 + 1), a_marks))
def fX7_mark_B135 (a_all : Nat → Int32) (s_nodes : Int32) (s_tree : Int32) (v3 : Int32) (v4 : Int32) (x : (Int32 × (Nat → Int32))) : Option ((Int32 × (Nat → Int32)) ⊕ (Nat → Int32)) :=
  if v4 ≤ x.1 then
    some (.inr x.2)
  else
    (rd 429 a_all x.1).bind fun t1 =>
    (rd 429 a_all v4).bind fun t2 =>
    (fX7_isBetween s_nodes t1 s_tree t2).bind fun r3 =>
    if r3 = 0 then
      fX7_mark_J184 a_all x.2 s_nodes s_tree v3 v4 x.1
    else
      (rd 429 x.2 v4).bind fun t4 =>
      (rd 429 x.2 x.1).bind fun t5 =>
      (wr 429 x.2 v4 (t4 - t5)).bind fun u6 =>
      fX7_mark_J184 a_all u6 s_nodes s_tree v3 v4 x.1
def fX7_mark_J95 (a_all : Nat → Int32) (a_marks : Nat → Int32) (s_nodes : Int32) (s_tree : Int32) (s_many : Int32) (v3 : Int32) (v4 : Int32) (k0 : Int32) (k1 : Int32) : Option ((Int32 × (Nat → Int32)) ⊕ (Nat → Int32)) :=
  (wr 429 a_marks k1 k0).bind fun u1 =>
  (rd 429 a_all v4).bind fun t2 =>
  if t2 = s_tree then
    fX7_mark_J190 a_all u1 s_nodes s_tree s_many v3 v4
  else
    (rd 429 a_all v4).bind fun t3 =>
    (fX7_isBetween s_nodes t3 s_tree v3).bind fun r4 =>
    if r4 = 0 then
      fX7_mark_J190 a_all u1 s_nodes s_tree s_many v3 v4
    else
      (it (fX7_mark_B135 a_all s_nodes s_tree v3 v4) FU ((0 : Int32), u1)).bind fun y5 =>
      fX7_mark_J190 a_all y5 s_nodes s_tree s_many v3 v4
def fX7_mark_B61 (a_all : Nat → Int32) (s_nodes : Int32) (s_tree : Int32) (s_many : Int32) (v3 : Int32) (x : (Int32 × (Nat → Int32))) : Option ((Int32 × (Nat → Int32)) ⊕ (Nat → Int32)) :=
  if s_many ≤ x.1 then
    some (.inr x.2)
  else
    (rd 429 a_all x.1).bind fun t1 =>
    if t1 = s_tree then
      fX7_mark_J95 a_all x.2 s_nodes s_tree s_many v3 x.1 (1 : Int32) x.1
    else
      fX7_mark_J95 a_all x.2 s_nodes s_tree s_many v3 x.1 (0 : Int32) x.1
def fX7_mark (a_shelfNodes : Nat → Int32) (a_shelfTree : Nat → Int32) (a_all : Nat → Int32) (a_marks : Nat → Int32) (s_nodes : Int32) (s_tree : Int32) (s_many : Int32) (s_tableOf : Int32) (v1 : Int32) : Option (Int32 × (Nat → Int32) × (Nat → Int32) × Int32 × Int32) :=
  (fX7_isShelf v1).bind fun r1 =>
  if r1 = 0 then
    some ((-99 : Int32), a_all, a_marks, s_many, s_tableOf)
  else
    (fX7_barOf a_shelfNodes s_nodes v1).bind fun r2 =>
    if r2 = 0 then
      (rd 4 a_shelfTree v1).bind fun t3 =>
      (fX7_isBelow s_tree t3 s_nodes).bind fun r4 =>
      if r4 = 0 then
        some ((-95 : Int32), a_all, a_marks, s_many, s_tableOf)
      else
        (fX7_table a_all s_many s_tableOf s_nodes).bind fun r5 =>
        (it (fX7_mark_B61 r5.1 s_nodes s_tree r5.2.1 t3) FU ((0 : Int32), a_marks)).bind fun y6 =>
        (fX7_numberOf r5.1 r5.2.1 r5.2.2 t3 s_nodes).bind fun r7 =>
        (rd 429 y6 r7.1).bind fun t8 =>
        some (t8, r7.2.1, y6, r7.2.2.1, r7.2.2.2)
    else
      some (((-100 : Int32) - r2), a_all, a_marks, s_many, s_tableOf)
def fX7_pairs_J67 (a_all : Nat → Int32) (s_many : Int32) (v1 : Int32) (v2 : Int32) (v3 : Int32) (v4 : Int32)  : Option ((Int32 × Int32) ⊕ Int32) :=
  some (.inl (v2, (v4 + 1)))
def fX7_pairs_B35 (a_all : Nat → Int32) (s_many : Int32) (v1 : Int32) (v3 : Int32) (x : (Int32 × Int32)) : Option ((Int32 × Int32) ⊕ Int32) :=
  if s_many ≤ x.2 then
    some (.inr x.1)
  else
    (rd 429 a_all v3).bind fun t1 =>
    (rd 429 a_all x.2).bind fun t2 =>
    (fX7_isBelow t1 t2 v1).bind fun r3 =>
    if r3 = 0 then
      fX7_pairs_J67 a_all s_many v1 x.1 v3 x.2
    else
      fX7_pairs_J67 a_all s_many v1 (x.1 + 1) v3 x.2
def fX7_pairs_B24 (a_all : Nat → Int32) (s_many : Int32) (v1 : Int32) (x : (Int32 × Int32)) : Option ((Int32 × Int32) ⊕ Int32) :=
  if s_many ≤ x.2 then
    some (.inr x.1)
  else
    (it (fX7_pairs_B35 a_all s_many v1 x.2) FU (x.1, x.2)).bind fun y1 =>
    some (.inl (y1, (x.2 + 1)))
def fX7_pairs (a_all : Nat → Int32) (s_many : Int32) (s_tableOf : Int32) (v1 : Int32) : Option (Int32 × (Nat → Int32) × Int32 × Int32) :=
  (fX7_in (v1.toInt64) (1 : Int64) (6 : Int64)).bind fun r1 =>
  if r1 = 0 then
    some ((-2 : Int32), a_all, s_many, s_tableOf)
  else
    (fX7_table a_all s_many s_tableOf v1).bind fun r2 =>
    (it (fX7_pairs_B24 r2.1 r2.2.1 v1) FU ((0 : Int32), (0 : Int32))).bind fun y3 =>
    some (y3, r2.1, r2.2.1, r2.2.2)
def fX7_far_J90 (a_dist : Nat → Int32) (s_many : Int32) (v1 : Int32) (v2 : Int32) (v3 : Int32) (v4 : Int32) (v5 : Int32)  : Option ((Int32 × Int32 × Int32 × Int32) ⊕ (Int32 × Int32 × Int32)) :=
  some (.inl (v2, v3, v4, (v5 + 1)))
def fX7_far_J87 (a_dist : Nat → Int32) (s_many : Int32) (v1 : Int32) (v2 : Int32) (v3 : Int32) (v4 : Int32) (v5 : Int32)  : Option ((Int32 × Int32 × Int32 × Int32) ⊕ (Int32 × Int32 × Int32)) :=
  fX7_far_J90 a_dist s_many v1 v2 (v3 + 1) v4 v5
def fX7_far_J73 (a_dist : Nat → Int32) (s_many : Int32) (v1 : Int32) (v5 : Int32)  : Option ((Int32 × Int32 × Int32 × Int32) ⊕ (Int32 × Int32 × Int32)) :=
  (rd 429 a_dist v5).bind fun t1 =>
  fX7_far_J87 a_dist s_many v1 t1 (0 : Int32) v5 v5
def fX7_far_B33 (a_dist : Nat → Int32) (s_many : Int32) (v1 : Int32) (x : (Int32 × Int32 × Int32 × Int32)) : Option ((Int32 × Int32 × Int32 × Int32) ⊕ (Int32 × Int32 × Int32)) :=
  if s_many ≤ x.2.2.2 then
    some (.inr (x.1, x.2.1, x.2.2.1))
  else
    (rd 429 a_dist x.2.2.2).bind fun t1 =>
    if x.1 ≤ t1 then
      (rd 429 a_dist x.2.2.2).bind fun t2 =>
      if x.1 < t2 then
        fX7_far_J73 a_dist s_many v1 x.2.2.2
      else
        if x.2.2.1 = (-1 : Int32) then
          fX7_far_J73 a_dist s_many v1 x.2.2.2
        else
          fX7_far_J87 a_dist s_many v1 x.1 x.2.1 x.2.2.1 x.2.2.2
    else
      fX7_far_J90 a_dist s_many v1 x.1 x.2.1 x.2.2.1 x.2.2.2
def fX7_far (a_all : Nat → Int32) (a_parent : Nat → Int32) (a_left : Nat → Int32) (a_right : Nat → Int32) (a_leftSize : Nat → Int32) (a_above : Nat → Int32) (a_dist : Nat → Int32) (a_queue : Nat → Int32) (s_nodes : Int32) (s_tree : Int32) (s_many : Int32) (s_tableOf : Int32) (s_read : Int32) (v1 : Int32) : Option (Int32 × (Nat → Int32) × (Nat → Int32) × (Nat → Int32) × (Nat → Int32) × (Nat → Int32) × (Nat → Int32) × (Nat → Int32) × (Nat → Int32) × Int32 × Int32 × Int32) :=
  (fX7_in (v1.toInt64) (0 : Int64) (2 : Int64)).bind fun r1 =>
  if r1 = 0 then
    some ((-1 : Int32), a_all, a_parent, a_left, a_right, a_leftSize, a_above, a_dist, a_queue, s_many, s_tableOf, s_read)
  else
    (fX7_measure a_all a_parent a_left a_right a_leftSize a_above a_dist a_queue s_nodes s_many s_tableOf s_read s_tree (0 : Int32)).bind fun r2 =>
    (it (fX7_far_B33 r2.2.2.2.2.2.2.1 r2.2.2.2.2.2.2.2.2.1 v1) FU ((0 : Int32), (0 : Int32), (-1 : Int32), (0 : Int32))).bind fun y3 =>
    if v1 = 0 then
      some (y3.1, r2.1, r2.2.1, r2.2.2.1, r2.2.2.2.1, r2.2.2.2.2.1, r2.2.2.2.2.2.1, r2.2.2.2.2.2.2.1, r2.2.2.2.2.2.2.2.1, r2.2.2.2.2.2.2.2.2.1, r2.2.2.2.2.2.2.2.2.2.1, r2.2.2.2.2.2.2.2.2.2.2)
    else
      if v1 = (1 : Int32) then
        some (y3.2.1, r2.1, r2.2.1, r2.2.2.1, r2.2.2.2.1, r2.2.2.2.2.1, r2.2.2.2.2.2.1, r2.2.2.2.2.2.2.1, r2.2.2.2.2.2.2.2.1, r2.2.2.2.2.2.2.2.2.1, r2.2.2.2.2.2.2.2.2.2.1, r2.2.2.2.2.2.2.2.2.2.2)
      else
        some (y3.2.2, r2.1, r2.2.1, r2.2.2.1, r2.2.2.2.1, r2.2.2.2.2.1, r2.2.2.2.2.2.1, r2.2.2.2.2.2.2.1, r2.2.2.2.2.2.2.2.1, r2.2.2.2.2.2.2.2.2.1, r2.2.2.2.2.2.2.2.2.2.1, r2.2.2.2.2.2.2.2.2.2.2)
def fX7_canopyOf_J26  (v0 : Int32) (v1 : Int32) (v2 : Int32) (v3 : Int32)  : Option ((Int32 × Int32) ⊕ Int32) :=
  some (.inl (v2, (v3 + 1)))
def fX7_canopyOf_B4  (v0 : Int32) (v1 : Int32) (x : (Int32 × Int32)) : Option ((Int32 × Int32) ⊕ Int32) :=
  if (v1 - (1 : Int32)) ≤ x.2 then
    some (.inr x.1)
  else
    (fX7_at v0 v1 x.2).bind fun r1 =>
    if r1 ≤ 0 then
      fX7_canopyOf_J26 v0 v1 x.1 x.2
    else
      fX7_canopyOf_J26 v0 v1 (x.1 ||| ((1 : Int32) <<< (x.2 &&& 31))) x.2
def fX7_canopyOf  (v0 : Int32) (v1 : Int32) : Option Int32 :=
  (it (fX7_canopyOf_B4 v0 v1) FU ((0 : Int32), (0 : Int32))).bind fun y1 =>
  some y1
def fX7_canopy (s_nodes : Int32) (s_tree : Int32)  : Option Int32 :=
  (fX7_canopyOf s_tree s_nodes).bind fun r1 =>
  some r1
def fX7_inClass_J101 (a_all : Nat → Int32) (s_nodes : Int32) (s_many : Int32) (v1 : Int32) (v2 : Int32) (v3 : Int32) (v4 : Int32) (v5 : Int32) (v6 : Int32)  : Option ((Int32 × Int32 × Int32 × Int32) ⊕ (Int32 × Int32 × Int32)) :=
  some (.inl (v3, v4, v5, (v6 + 1)))
def fX7_inClass_J94 (a_all : Nat → Int32) (s_nodes : Int32) (s_many : Int32) (v1 : Int32) (v2 : Int32) (v3 : Int32) (v4 : Int32) (v6 : Int32)  : Option ((Int32 × Int32 × Int32 × Int32) ⊕ (Int32 × Int32 × Int32)) :=
  fX7_inClass_J101 a_all s_nodes s_many v1 v2 (v3 + 1) v4 v6 v6
def fX7_inClass_B56 (a_all : Nat → Int32) (s_nodes : Int32) (s_many : Int32) (v1 : Int32) (v2 : Int32) (x : (Int32 × Int32 × Int32 × Int32)) : Option ((Int32 × Int32 × Int32 × Int32) ⊕ (Int32 × Int32 × Int32)) :=
  if s_many ≤ x.2.2.2 then
    some (.inr (x.1, x.2.1, x.2.2.1))
  else
    (rd 429 a_all x.2.2.2).bind fun t1 =>
    (fX7_canopyOf t1 s_nodes).bind fun r2 =>
    if r2 = v1 then
      if x.1 = 0 then
        fX7_inClass_J94 a_all s_nodes s_many v1 v2 x.1 x.2.2.2 x.2.2.2
      else
        fX7_inClass_J94 a_all s_nodes s_many v1 v2 x.1 x.2.1 x.2.2.2
    else
      fX7_inClass_J101 a_all s_nodes s_many v1 v2 x.1 x.2.1 x.2.2.1 x.2.2.2
def fX7_inClass (a_all : Nat → Int32) (s_nodes : Int32) (s_many : Int32) (s_tableOf : Int32) (v1 : Int32) (v2 : Int32) : Option (Int32 × (Nat → Int32) × Int32 × Int32) :=
  (fX7_in (v1.toInt64) (0 : Int64) (((((1 : Int32) <<< ((s_nodes - (1 : Int32)) &&& 31)) - (1 : Int32))).toInt64)).bind fun r1 =>
  if r1 = 0 then
    some ((-2 : Int32), a_all, s_many, s_tableOf)
  else
    (fX7_in (v2.toInt64) (0 : Int64) (2 : Int64)).bind fun r2 =>
    if r2 = 0 then
      some ((-1 : Int32), a_all, s_many, s_tableOf)
    else
      (fX7_table a_all s_many s_tableOf s_nodes).bind fun r3 =>
      (it (fX7_inClass_B56 r3.1 s_nodes r3.2.1 v1 v2) FU ((0 : Int32), (-1 : Int32), (-1 : Int32), (0 : Int32))).bind fun y4 =>
      if v2 = 0 then
        some (y4.1, r3.1, r3.2.1, r3.2.2)
      else
        if v2 = (1 : Int32) then
          some (y4.2.1, r3.1, r3.2.1, r3.2.2)
        else
          some (y4.2.2, r3.1, r3.2.1, r3.2.2)
def fX7_likeness (a_shelfNodes : Nat → Int32) (a_shelfTree : Nat → Int32) (s_nodes : Int32) (s_tree : Int32) (v1 : Int32) : Option Int32 :=
  (fX7_isShelf v1).bind fun r1 =>
  if r1 = 0 then
    some (-1 : Int32)
  else
    (fX7_barOf a_shelfNodes s_nodes v1).bind fun r2 =>
    if r2 = 0 then
      (fX7_canopy s_nodes s_tree).bind fun r3 =>
      (rd 4 a_shelfTree v1).bind fun t4 =>
      (fX7_canopyOf t4 s_nodes).bind fun r5 =>
      (fJ0_bitCount (r3 ^^^ r5)).bind fun r6 =>
      some r6
    else
      some r2
def fX7_keep (a_shelfNodes : Nat → Int32) (a_shelfTree : Nat → Int32) (a_all : Nat → Int32) (s_nodes : Int32) (s_tree : Int32) (s_many : Int32) (s_tableOf : Int32) (v1 : Int32) : Option (Int32 × (Nat → Int32) × (Nat → Int32) × (Nat → Int32) × Int32 × Int32) :=
  (fX7_isShelf v1).bind fun r1 =>
  if r1 = 0 then
    some ((-1 : Int32), a_shelfNodes, a_shelfTree, a_all, s_many, s_tableOf)
  else
    (wr 4 a_shelfNodes v1 s_nodes).bind fun u2 =>
    (wr 4 a_shelfTree v1 s_tree).bind fun u3 =>
    (fX7_which a_all s_nodes s_tree s_many s_tableOf).bind fun r4 =>
    some (r4.1, u2, u3, r4.2.1, r4.2.2.1, r4.2.2.2)
def fX7_lay (a_shelfNodes : Nat → Int32) (a_shelfTree : Nat → Int32) (a_stepNodes : Nat → Int32) (a_stepTree : Nat → Int32) (s_nodes : Int32) (s_tree : Int32) (s_steps : Int32) (v1 : Int32) : Option (Int32 × (Nat → Int32) × (Nat → Int32) × Int32 × Int32 × Int32) :=
  (fX7_isShelf v1).bind fun r1 =>
  if r1 = 0 then
    some ((-1 : Int32), a_stepNodes, a_stepTree, s_nodes, s_tree, s_steps)
  else
    (rd 4 a_shelfNodes v1).bind fun t2 =>
    if t2 = 0 then
      some ((-6 : Int32), a_stepNodes, a_stepTree, s_nodes, s_tree, s_steps)
    else
      (rd 4 a_shelfNodes v1).bind fun t3 =>
      (rd 4 a_shelfTree v1).bind fun t4 =>
      (fX7_becomes a_stepNodes a_stepTree s_nodes s_tree s_steps t3 t4).bind fun r5 =>
      some (r5.2.2.1, r5.1, r5.2.1, r5.2.2.1, r5.2.2.2.1, r5.2.2.2.2)
def fX7_lose (a_shelfNodes : Nat → Int32) (v1 : Int32) : Option (Int32 × (Nat → Int32)) :=
  (fX7_isShelf v1).bind fun r1 =>
  if r1 = 0 then
    some ((-1 : Int32), a_shelfNodes)
  else
    (rd 4 a_shelfNodes v1).bind fun t2 =>
    if t2 = 0 then
      some ((-6 : Int32), a_shelfNodes)
    else
      (rd 4 a_shelfNodes v1).bind fun t3 =>
      (wr 4 a_shelfNodes v1 (0 : Int32)).bind fun u4 =>
      some (t3, u4)
def fX7_over (a_shelfNodes : Nat → Int32) (a_shelfTree : Nat → Int32) (a_stepNodes : Nat → Int32) (a_stepTree : Nat → Int32) (s_nodes : Int32) (s_tree : Int32) (s_steps : Int32) (v1 : Int32) : Option (Int32 × (Nat → Int32) × (Nat → Int32) × Int32 × Int32 × Int32) :=
  (fX7_isShelf v1).bind fun r1 =>
  if r1 = 0 then
    some ((-1 : Int32), a_stepNodes, a_stepTree, s_nodes, s_tree, s_steps)
  else
    (rd 4 a_shelfNodes v1).bind fun t2 =>
    if t2 = 0 then
      some ((-6 : Int32), a_stepNodes, a_stepTree, s_nodes, s_tree, s_steps)
    else
      (rd 4 a_shelfNodes v1).bind fun t3 =>
      if (t3 + s_nodes) ≤ (7 : Int32) then
        (rd 4 a_shelfNodes v1).bind fun t4 =>
        (rd 4 a_shelfTree v1).bind fun t5 =>
        (fX7_ten s_nodes).bind fun r6 =>
        (fX7_becomes a_stepNodes a_stepTree s_nodes s_tree s_steps (t4 + s_nodes) ((t5 * r6) + s_tree)).bind fun r7 =>
        some (r7.2.2.1, r7.1, r7.2.1, r7.2.2.1, r7.2.2.2.1, r7.2.2.2.2)
      else
        some ((-4 : Int32), a_stepNodes, a_stepTree, s_nodes, s_tree, s_steps)
def fX7_under_J105 (s_nodes : Int32) (s_tree : Int32) (v1 : Int32) (v2 : Int32) (v3 : Int32) (v4 : Int32)  : Option ((Int32 × Int32) ⊕ Int32) :=
  some (.inl (v3, (v4 + 1)))
def fX7_under_B45 (s_nodes : Int32) (s_tree : Int32) (v1 : Int32) (v2 : Int32) (x : (Int32 × Int32)) : Option ((Int32 × Int32) ⊕ Int32) :=
  if s_nodes ≤ x.2 then
    some (.inr x.1)
  else
    (fX7_at s_tree s_nodes x.2).bind fun r1 =>
    if (x.2 + r1) = (s_nodes - (1 : Int32)) then
      (fX7_at s_tree s_nodes x.2).bind fun r2 =>
      (fX7_with x.1 s_nodes x.2 (r2 + v2)).bind fun r3 =>
      fX7_under_J105 s_nodes s_tree v1 v2 r3 x.2
    else
      fX7_under_J105 s_nodes s_tree v1 v2 x.1 x.2
def fX7_under (a_shelfNodes : Nat → Int32) (a_shelfTree : Nat → Int32) (a_stepNodes : Nat → Int32) (a_stepTree : Nat → Int32) (s_nodes : Int32) (s_tree : Int32) (s_steps : Int32) (v1 : Int32) : Option (Int32 × (Nat → Int32) × (Nat → Int32) × Int32 × Int32 × Int32) :=
  (fX7_isShelf v1).bind fun r1 =>
  if r1 = 0 then
    some ((-1 : Int32), a_stepNodes, a_stepTree, s_nodes, s_tree, s_steps)
  else
    (rd 4 a_shelfNodes v1).bind fun t2 =>
    if t2 = 0 then
      some ((-6 : Int32), a_stepNodes, a_stepTree, s_nodes, s_tree, s_steps)
    else
      if (t2 + s_nodes) ≤ (7 : Int32) then
        (it (fX7_under_B45 s_nodes s_tree v1 t2) FU (s_tree, (0 : Int32))).bind fun y3 =>
        (fX7_ten t2).bind fun r4 =>
        (rd 4 a_shelfTree v1).bind fun t5 =>
        (fX7_becomes a_stepNodes a_stepTree s_nodes s_tree s_steps (s_nodes + t2) ((y3 * r4) + t5)).bind fun r6 =>
        some (r6.2.2.1, r6.1, r6.2.1, r6.2.2.1, r6.2.2.2.1, r6.2.2.2.2)
      else
        some ((-4 : Int32), a_stepNodes, a_stepTree, s_nodes, s_tree, s_steps)
def fX7_shelf (a_shelfNodes : Nat → Int32) (a_shelfTree : Nat → Int32) (a_all : Nat → Int32) (s_many : Int32) (s_tableOf : Int32) (v1 : Int32) (v2 : Int32) : Option (Int32 × (Nat → Int32) × Int32 × Int32) :=
  (fX7_isShelf v1).bind fun r1 =>
  if r1 = 0 then
    some ((-1 : Int32), a_all, s_many, s_tableOf)
  else
    (fX7_in (v2.toInt64) (0 : Int64) (2 : Int64)).bind fun r2 =>
    if r2 = 0 then
      some ((-1 : Int32), a_all, s_many, s_tableOf)
    else
      (rd 4 a_shelfNodes v1).bind fun t3 =>
      if t3 = 0 then
        some ((-6 : Int32), a_all, s_many, s_tableOf)
      else
        if v2 = 0 then
          (rd 4 a_shelfNodes v1).bind fun t8 =>
          some (t8, a_all, s_many, s_tableOf)
        else
          if v2 = (1 : Int32) then
            (rd 4 a_shelfTree v1).bind fun t5 =>
            (rd 4 a_shelfNodes v1).bind fun t6 =>
            (fX7_numberOf a_all s_many s_tableOf t5 t6).bind fun r7 =>
            some (r7.1, r7.2.1, r7.2.2.1, r7.2.2.2)
          else
            (rd 4 a_shelfTree v1).bind fun t4 =>
            some (t4, a_all, s_many, s_tableOf)
def fX7_isList  (v0 : Int32) : Option Int32 :=
  (fX7_in (v0.toInt64) (0 : Int64) (2 : Int64)).bind fun r1 =>
  (zro r1).bind fun z2 =>
  some z2
def fX7_makes_B9  (v1 : Int32) (x : (Int32 × (Nat → Nat → Int64))) : Option ((Int32 × (Nat → Nat → Int64)) ⊕ (Nat → Nat → Int64)) :=
  if (20 : Int32) ≤ x.1 then
    some (.inr x.2)
  else
    (wrL 60 (x.2 0) (((20 : Int32) * v1) + x.1) (0 : Int64)).bind fun u1 =>
    some (.inl ((x.1 + 1), (pu x.2 [(0, u1)])))
def fX7_makes (a_listSize : Nat → Int32) (lo : Nat → Nat → Int64) (v1 : Int32) (v2 : Int32) : Option ((Nat → Int32) × (Nat → Nat → Int64)) :=
  (wr 3 a_listSize v1 v2).bind fun u1 =>
  (it (fX7_makes_B9 v1) FU ((0 : Int32), lo)).bind fun y2 =>
  some (u1, y2)
def fX7_list (a_listSize : Nat → Int32) (lo : Nat → Nat → Int64) (v1 : Int32) (v2 : Int32) : Option (Int32 × (Nat → Int32) × (Nat → Nat → Int64)) :=
  (fX7_isList v1).bind fun r1 =>
  if r1 = 0 then
    some ((-1 : Int32), a_listSize, lo)
  else
    if v2 ≤ (20 : Int32) then
      if (-1 : Int32) ≤ v2 then
        (fX7_makes a_listSize lo v1 v2).bind fun r2 =>
        some ((1 : Int32), r2.1, r2.2)
      else
        some ((-14 : Int32), a_listSize, lo)
    else
      some ((-2 : Int32), a_listSize, lo)
def fX7_put (a_listSize : Nat → Int32) (lo : Nat → Nat → Int64) (v1 : Int32) (v2 : Int32) (v3 : Int64) : Option (Int32 × (Nat → Nat → Int64)) :=
  (fX7_isList v1).bind fun r1 =>
  if r1 = 0 then
    some ((-1 : Int32), lo)
  else
    (rd 3 a_listSize v1).bind fun t2 =>
    if 0 ≤ t2 then
      (rd 3 a_listSize v1).bind fun t3 =>
      (fX7_in (v2.toInt64) (0 : Int64) (((t3 - (1 : Int32))).toInt64)).bind fun r4 =>
      if r4 = 0 then
        some ((-13 : Int32), lo)
      else
        (wrL 60 (lo 0) (((20 : Int32) * v1) + v2) v3).bind fun u5 =>
        some ((1 : Int32), (pu lo [(0, u5)]))
    else
      some ((-11 : Int32), lo)
def fX7_get (a_listSize : Nat → Int32) (lo : Nat → Nat → Int64) (v1 : Int32) (v2 : Int32) : Option Int64 :=
  (fX7_isList v1).bind fun r1 =>
  if r1 = 0 then
    some (-9223372036854775808 : Int64)
  else
    (rd 3 a_listSize v1).bind fun t2 =>
    (fX7_in (v2.toInt64) (0 : Int64) (((t2 - (1 : Int32))).toInt64)).bind fun r3 =>
    if r3 = 0 then
      some (-9223372036854775808 : Int64)
    else
      (rd 60 (lo 0) (((20 : Int32) * v1) + v2)).bind fun t4 =>
      some t4
def fX7_play_J108 (a_stepNodes : Nat → Int32) (a_stepTree : Nat → Int32) (a_listSize : Nat → Int32) (a_parent : Nat → Int32) (a_left : Nat → Int32) (a_right : Nat → Int32) (a_leftSize : Nat → Int32) (a_above : Nat → Int32) (lo : Nat → Nat → Int64) (s_nodes : Int32) (s_tree : Int32) (s_steps : Int32) (s_read : Int32) (v1 : Int32) (v2 : Int32) (k0 : Int32) : Option ((Int32 × (Nat → Int32) × (Nat → Int32) × (Nat → Int32) × (Nat → Int32) × (Nat → Int32) × (Nat → Int32) × (Nat → Int32) × Int32 × Int32 × Int32 × Int32) ⊕ (((Nat → Int32) × (Nat → Int32) × (Nat → Int32) × (Nat → Int32) × (Nat → Int32) × (Nat → Int32) × (Nat → Int32) × Int32 × Int32 × Int32 × Int32) ⊕ (Int32 × (Nat → Int32) × (Nat → Int32) × (Nat → Int32) × (Nat → Int32) × (Nat → Int32) × (Nat → Int32) × (Nat → Int32) × Int32 × Int32 × Int32 × Int32))) :=
  if k0 = (-5 : Int32) then
    some (.inr (.inr (v2, a_stepNodes, a_stepTree, a_parent, a_left, a_right, a_leftSize, a_above, s_nodes, s_tree, s_steps, s_read)))
  else
    (fX7_becomes a_stepNodes a_stepTree s_nodes s_tree s_steps s_nodes k0).bind fun r1 =>
    some (.inl ((v2 + 1), r1.1, r1.2.1, a_parent, a_left, a_right, a_leftSize, a_above, r1.2.2.1, r1.2.2.2.1, r1.2.2.2.2, s_read))
def fX7_play_B23 (a_listSize : Nat → Int32) (lo : Nat → Nat → Int64) (v1 : Int32) (x : (Int32 × (Nat → Int32) × (Nat → Int32) × (Nat → Int32) × (Nat → Int32) × (Nat → Int32) × (Nat → Int32) × (Nat → Int32) × Int32 × Int32 × Int32 × Int32)) : Option ((Int32 × (Nat → Int32) × (Nat → Int32) × (Nat → Int32) × (Nat → Int32) × (Nat → Int32) × (Nat → Int32) × (Nat → Int32) × Int32 × Int32 × Int32 × Int32) ⊕ (((Nat → Int32) × (Nat → Int32) × (Nat → Int32) × (Nat → Int32) × (Nat → Int32) × (Nat → Int32) × (Nat → Int32) × Int32 × Int32 × Int32 × Int32) ⊕ (Int32 × (Nat → Int32) × (Nat → Int32) × (Nat → Int32) × (Nat → Int32) × (Nat → Int32) × (Nat → Int32) × (Nat → Int32) × Int32 × Int32 × Int32 × Int32))) :=
  (rd 3 a_listSize v1).bind fun t1 =>
  if t1 ≤ x.1 then
    some (.inr (.inl (x.2.1, x.2.2.1, x.2.2.2.1, x.2.2.2.2.1, x.2.2.2.2.2.1, x.2.2.2.2.2.2.1, x.2.2.2.2.2.2.2.1, x.2.2.2.2.2.2.2.2.1, x.2.2.2.2.2.2.2.2.2.1, x.2.2.2.2.2.2.2.2.2.2.1, x.2.2.2.2.2.2.2.2.2.2.2)))
  else
    (rd 60 (lo 0) (((20 : Int32) * v1) + x.1)).bind fun t2 =>
    (fX7_in t2 (((0 - x.2.2.2.2.2.2.2.2.1)).toInt64) (((x.2.2.2.2.2.2.2.2.1 - (1 : Int32))).toInt64)).bind fun r3 =>
    if r3 = 0 then
      some (.inr (.inr (x.1, x.2.1, x.2.2.1, x.2.2.2.1, x.2.2.2.2.1, x.2.2.2.2.2.1, x.2.2.2.2.2.2.1, x.2.2.2.2.2.2.2.1, x.2.2.2.2.2.2.2.2.1, x.2.2.2.2.2.2.2.2.2.1, x.2.2.2.2.2.2.2.2.2.2.1, x.2.2.2.2.2.2.2.2.2.2.2)))
    else
      if (lg_cmp t2 (0 : Int64)) < 0 then
        (fX7_down x.2.2.2.1 x.2.2.2.2.1 x.2.2.2.2.2.1 x.2.2.2.2.2.2.1 x.2.2.2.2.2.2.2.1 x.2.2.2.2.2.2.2.2.2.2.2 x.2.2.2.2.2.2.2.2.2.1 x.2.2.2.2.2.2.2.2.1 ((((-1 : Int64) - t2)).toInt32)).bind fun r4 =>
        fX7_play_J108 x.2.1 x.2.2.1 a_listSize r4.2.1 r4.2.2.1 r4.2.2.2.1 r4.2.2.2.2.1 r4.2.2.2.2.2.1 lo x.2.2.2.2.2.2.2.2.1 x.2.2.2.2.2.2.2.2.2.1 x.2.2.2.2.2.2.2.2.2.2.1 r4.2.2.2.2.2.2 v1 x.1 r4.1
      else
        (fX7_up x.2.2.2.1 x.2.2.2.2.1 x.2.2.2.2.2.1 x.2.2.2.2.2.2.1 x.2.2.2.2.2.2.2.1 x.2.2.2.2.2.2.2.2.2.2.2 x.2.2.2.2.2.2.2.2.2.1 x.2.2.2.2.2.2.2.2.1 ((t2).toInt32)).bind fun r5 =>
        fX7_play_J108 x.2.1 x.2.2.1 a_listSize r5.2.1 r5.2.2.1 r5.2.2.2.1 r5.2.2.2.2.1 r5.2.2.2.2.2.1 lo x.2.2.2.2.2.2.2.2.1 x.2.2.2.2.2.2.2.2.2.1 x.2.2.2.2.2.2.2.2.2.2.1 r5.2.2.2.2.2.2 v1 x.1 r5.1
def fX7_play (a_stepNodes : Nat → Int32) (a_stepTree : Nat → Int32) (a_listSize : Nat → Int32) (a_parent : Nat → Int32) (a_left : Nat → Int32) (a_right : Nat → Int32) (a_leftSize : Nat → Int32) (a_above : Nat → Int32) (lo : Nat → Nat → Int64) (s_nodes : Int32) (s_tree : Int32) (s_steps : Int32) (s_read : Int32) (v1 : Int32) : Option (Int32 × (Nat → Int32) × (Nat → Int32) × (Nat → Int32) × (Nat → Int32) × (Nat → Int32) × (Nat → Int32) × (Nat → Int32) × Int32 × Int32 × Int32 × Int32) :=
  (fX7_isList v1).bind fun r1 =>
  if r1 = 0 then
    some ((-1 : Int32), a_stepNodes, a_stepTree, a_parent, a_left, a_right, a_leftSize, a_above, s_nodes, s_tree, s_steps, s_read)
  else
    (rd 3 a_listSize v1).bind fun t2 =>
    if 0 ≤ t2 then
      (it (fX7_play_B23 a_listSize lo v1) FU ((0 : Int32), a_stepNodes, a_stepTree, a_parent, a_left, a_right, a_leftSize, a_above, s_nodes, s_tree, s_steps, s_read)).bind (Sum.elim (fun y3 =>
        (rd 3 a_listSize v1).bind fun t4 =>
        some (t4, y3.1, y3.2.1, y3.2.2.1, y3.2.2.2.1, y3.2.2.2.2.1, y3.2.2.2.2.2.1, y3.2.2.2.2.2.2.1, y3.2.2.2.2.2.2.2.1, y3.2.2.2.2.2.2.2.2.1, y3.2.2.2.2.2.2.2.2.2.1, y3.2.2.2.2.2.2.2.2.2.2)) some)
    else
      some ((-11 : Int32), a_stepNodes, a_stepTree, a_parent, a_left, a_right, a_leftSize, a_above, s_nodes, s_tree, s_steps, s_read)
def fX7_film_J162 (a_all : Nat → Int32) (a_parent : Nat → Int32) (a_left : Nat → Int32) (a_right : Nat → Int32) (a_leftSize : Nat → Int32) (a_above : Nat → Int32) (a_dist : Nat → Int32) (lo : Nat → Nat → Int64) (s_nodes : Int32) (s_many : Int32) (s_tableOf : Int32) (s_read : Int32) (v1 : Int32) (v4 : Int32) (v6 : Int32) (k0 : Int32) : Option ((Int32 × Int32 × (Nat → Int32) × (Nat → Int32) × (Nat → Int32) × (Nat → Int32) × (Nat → Int32) × (Nat → Int32) × (Nat → Nat → Int64) × Int32 × Int32 × Int32) ⊕ ((Nat → Int32) × (Nat → Int32) × (Nat → Int32) × (Nat → Int32) × (Nat → Int32) × (Nat → Int32) × (Nat → Nat → Int64) × Int32 × Int32 × Int32)) :=
  some (.inl (k0, (v6 + 1), a_all, a_parent, a_left, a_right, a_leftSize, a_above, lo, s_many, s_tableOf, s_read))
def fX7_film_J127 (a_all : Nat → Int32) (a_parent : Nat → Int32) (a_left : Nat → Int32) (a_right : Nat → Int32) (a_leftSize : Nat → Int32) (a_above : Nat → Int32) (a_dist : Nat → Int32) (lo : Nat → Nat → Int64) (s_nodes : Int32) (s_many : Int32) (s_tableOf : Int32) (s_read : Int32) (v1 : Int32) (v4 : Int32) (v5 : Int32) (v6 : Int32) (v7 : Int32) (v8 : Int32) (k0 : Int64) (k1 : Int32) : Option ((Int32 × Int32 × (Nat → Int32) × (Nat → Int32) × (Nat → Int32) × (Nat → Int32) × (Nat → Int32) × (Nat → Int32) × (Nat → Nat → Int64) × Int32 × Int32 × Int32) ⊕ ((Nat → Int32) × (Nat → Int32) × (Nat → Int32) × (Nat → Int32) × (Nat → Int32) × (Nat → Int32) × (Nat → Nat → Int64) × Int32 × Int32 × Int32)) :=
  (wrL 60 (lo 0) k1 k0).bind fun u1 =>
  if (100 : Int32) ≤ v7 then
    (fX7_down a_parent a_left a_right a_leftSize a_above s_read v5 s_nodes v8).bind fun r2 =>
    fX7_film_J162 a_all r2.2.1 r2.2.2.1 r2.2.2.2.1 r2.2.2.2.2.1 r2.2.2.2.2.2.1 a_dist (pu lo [(0, u1)]) s_nodes s_many s_tableOf r2.2.2.2.2.2.2 v1 v4 v6 r2.1
  else
    (fX7_up a_parent a_left a_right a_leftSize a_above s_read v5 s_nodes v8).bind fun r3 =>
    fX7_film_J162 a_all r3.2.1 r3.2.2.1 r3.2.2.2.1 r3.2.2.2.2.1 r3.2.2.2.2.2.1 a_dist (pu lo [(0, u1)]) s_nodes s_many s_tableOf r3.2.2.2.2.2.2 v1 v4 v6 r3.1
def fX7_film_B76 (a_dist : Nat → Int32) (s_nodes : Int32) (v1 : Int32) (v4 : Int32) (x : (Int32 × Int32 × (Nat → Int32) × (Nat → Int32) × (Nat → Int32) × (Nat → Int32) × (Nat → Int32) × (Nat → Int32) × (Nat → Nat → Int64) × Int32 × Int32 × Int32)) : Option ((Int32 × Int32 × (Nat → Int32) × (Nat → Int32) × (Nat → Int32) × (Nat → Int32) × (Nat → Int32) × (Nat → Int32) × (Nat → Nat → Int64) × Int32 × Int32 × Int32) ⊕ ((Nat → Int32) × (Nat → Int32) × (Nat → Int32) × (Nat → Int32) × (Nat → Int32) × (Nat → Int32) × (Nat → Nat → Int64) × Int32 × Int32 × Int32)) :=
  if v4 ≤ x.2.1 then
    some (.inr (x.2.2.1, x.2.2.2.1, x.2.2.2.2.1, x.2.2.2.2.2.1, x.2.2.2.2.2.2.1, x.2.2.2.2.2.2.2.1, x.2.2.2.2.2.2.2.2.1, x.2.2.2.2.2.2.2.2.2.1, x.2.2.2.2.2.2.2.2.2.2.1, x.2.2.2.2.2.2.2.2.2.2.2))
  else
    (fX7_firstTurn x.2.2.1 x.2.2.2.1 x.2.2.2.2.1 x.2.2.2.2.2.1 x.2.2.2.2.2.2.1 x.2.2.2.2.2.2.2.1 a_dist s_nodes x.2.2.2.2.2.2.2.2.2.1 x.2.2.2.2.2.2.2.2.2.2.1 x.2.2.2.2.2.2.2.2.2.2.2 x.1).bind fun r1 =>
    (rmo r1.1 (100 : Int32)).bind fun t2 =>
    if (100 : Int32) ≤ r1.1 then
      fX7_film_J127 r1.2.1 r1.2.2.1 r1.2.2.2.1 r1.2.2.2.2.1 r1.2.2.2.2.2.1 r1.2.2.2.2.2.2.1 a_dist x.2.2.2.2.2.2.2.2.1 s_nodes r1.2.2.2.2.2.2.2.1 r1.2.2.2.2.2.2.2.2.1 r1.2.2.2.2.2.2.2.2.2 v1 v4 x.1 x.2.1 r1.1 t2 ((((-1 : Int32) - t2)).toInt64) (((20 : Int32) * v1) + x.2.1)
    else
      fX7_film_J127 r1.2.1 r1.2.2.1 r1.2.2.2.1 r1.2.2.2.2.1 r1.2.2.2.2.2.1 r1.2.2.2.2.2.2.1 a_dist x.2.2.2.2.2.2.2.2.1 s_nodes r1.2.2.2.2.2.2.2.1 r1.2.2.2.2.2.2.2.2.1 r1.2.2.2.2.2.2.2.2.2 v1 v4 x.1 x.2.1 r1.1 t2 (t2.toInt64) (((20 : Int32) * v1) + x.2.1)
def fX7_film (a_shelfNodes : Nat → Int32) (a_shelfTree : Nat → Int32) (a_listSize : Nat → Int32) (a_all : Nat → Int32) (a_parent : Nat → Int32) (a_left : Nat → Int32) (a_right : Nat → Int32) (a_leftSize : Nat → Int32) (a_above : Nat → Int32) (a_dist : Nat → Int32) (a_queue : Nat → Int32) (lo : Nat → Nat → Int64) (s_nodes : Int32) (s_tree : Int32) (s_many : Int32) (s_tableOf : Int32) (s_read : Int32) (v1 : Int32) (v2 : Int32) : Option (Int32 × (Nat → Int32) × (Nat → Int32) × (Nat → Int32) × (Nat → Int32) × (Nat → Int32) × (Nat → Int32) × (Nat → Int32) × (Nat → Int32) × (Nat → Int32) × (Nat → Nat → Int64) × Int32 × Int32 × Int32) :=
  (fX7_isList v1).bind fun r1 =>
  if r1 = 0 then
    some ((-1 : Int32), a_listSize, a_all, a_parent, a_left, a_right, a_leftSize, a_above, a_dist, a_queue, lo, s_many, s_tableOf, s_read)
  else
    (fX7_isShelf v2).bind fun r2 =>
    if r2 = 0 then
      some ((-1 : Int32), a_listSize, a_all, a_parent, a_left, a_right, a_leftSize, a_above, a_dist, a_queue, lo, s_many, s_tableOf, s_read)
    else
      (fX7_barOf a_shelfNodes s_nodes v2).bind fun r3 =>
      if r3 = 0 then
        (rd 4 a_shelfTree v2).bind fun t4 =>
        (fX7_measure a_all a_parent a_left a_right a_leftSize a_above a_dist a_queue s_nodes s_many s_tableOf s_read t4 (0 : Int32)).bind fun r5 =>
        (fX7_which r5.1 s_nodes s_tree r5.2.2.2.2.2.2.2.2.1 r5.2.2.2.2.2.2.2.2.2.1).bind fun r6 =>
        (rd 429 r5.2.2.2.2.2.2.1 r6.1).bind fun t7 =>
        if t7 ≤ (20 : Int32) then
          (fX7_makes a_listSize lo v1 t7).bind fun r8 =>
          (it (fX7_film_B76 r5.2.2.2.2.2.2.1 s_nodes v1 t7) FU (s_tree, (0 : Int32), r6.2.1, r5.2.1, r5.2.2.1, r5.2.2.2.1, r5.2.2.2.2.1, r5.2.2.2.2.2.1, r8.2, r6.2.2.1, r6.2.2.2, r5.2.2.2.2.2.2.2.2.2.2)).bind fun y9 =>
          some (t7, r8.1, y9.1, y9.2.1, y9.2.2.1, y9.2.2.2.1, y9.2.2.2.2.1, y9.2.2.2.2.2.1, r5.2.2.2.2.2.2.1, r5.2.2.2.2.2.2.2.1, y9.2.2.2.2.2.2.1, y9.2.2.2.2.2.2.2.1, y9.2.2.2.2.2.2.2.2.1, y9.2.2.2.2.2.2.2.2.2)
        else
          some ((-4 : Int32), a_listSize, r6.2.1, r5.2.1, r5.2.2.1, r5.2.2.2.1, r5.2.2.2.2.1, r5.2.2.2.2.2.1, r5.2.2.2.2.2.2.1, r5.2.2.2.2.2.2.2.1, lo, r6.2.2.1, r6.2.2.2, r5.2.2.2.2.2.2.2.2.2.2)
      else
        some (r3, a_listSize, a_all, a_parent, a_left, a_right, a_leftSize, a_above, a_dist, a_queue, lo, s_many, s_tableOf, s_read)
def fX7_feed (a_tape : Nat → Int32) (s_taped : Int32) (v1 : Int32) : Option (Int32 × (Nat → Int32) × Int32) :=
  (fX7_in (v1.toInt64) (32 : Int64) (126 : Int64)).bind fun r1 =>
  if r1 = 0 then
    some ((-2 : Int32), a_tape, s_taped)
  else
    if s_taped = (60 : Int32) then
      some ((-4 : Int32), a_tape, s_taped)
    else
      (wr 60 a_tape s_taped v1).bind fun u2 =>
      some ((s_taped + (1 : Int32)), u2, (s_taped + (1 : Int32)))
def fX7_wipe (s_taped : Int32)  : Option (Int32 × Int32) :=
  some (s_taped, (0 : Int32))
def fX7_sign (a_tape : Nat → Int32) (s_taped : Int32) (s_atp : Int32)  : Option Int32 :=
  if s_taped ≤ s_atp then
    some (-1 : Int32)
  else
    (rd 60 a_tape s_atp).bind fun t1 =>
    some t1
def fX7_sees : Nat → (Nat → Int32) → (Nat → Int32) → Int32 → Int32 → Int32 → Int32 → Int32 → Int32 → Option (Int32 × (Nat → Int32) × Int32 × Int32 × Int32 × Int32)
  | 0, _, _, _, _, _, _, _, _ => none
  | d + 1, a_tape, a_seenRow, s_taped, s_atp, s_seen, s_opn, s_part, v1 =>
    (fX7_sign a_tape s_taped s_atp).bind fun r1 =>
    if r1 = (46 : Int32) then
      if v1 = 0 then
        (fX7_sign a_tape s_taped s_atp).bind fun r7 =>
        if r7 = (40 : Int32) then
          if s_opn = (7 : Int32) then
            some ((0 : Int32), a_seenRow, s_atp, s_seen, s_opn, s_part)
          else
            (fX7_sees d a_tape a_seenRow s_taped (s_atp + (1 : Int32)) s_seen (s_opn + (1 : Int32)) s_part (1 : Int32)).bind fun r8 =>
            if r8.1 = 0 then
              some ((0 : Int32), r8.2.1, r8.2.2.1, r8.2.2.2.1, r8.2.2.2.2.1, r8.2.2.2.2.2)
            else
              (fX7_sees d a_tape r8.2.1 s_taped r8.2.2.1 (r8.2.2.2.1 + (1 : Int32)) r8.2.2.2.2.1 r8.2.2.2.2.2 (1 : Int32)).bind fun r9 =>
              if r9.1 = 0 then
                some ((0 : Int32), r9.2.1, r9.2.2.1, r9.2.2.2.1, r9.2.2.2.2.1, r9.2.2.2.2.2)
              else
                (fX7_sign a_tape s_taped r9.2.2.1).bind fun r10 =>
                if r10 = (41 : Int32) then
                  (wr 7 r9.2.1 r8.2.2.2.1 r9.2.2.2.2.2).bind fun u11 =>
                  some ((1 : Int32), u11, (r9.2.2.1 + (1 : Int32)), r9.2.2.2.1, r9.2.2.2.2.1, (r9.2.2.2.2.2 + (r8.2.2.2.2.2 + (1 : Int32))))
                else
                  some ((0 : Int32), r9.2.1, r9.2.2.1, r9.2.2.2.1, r9.2.2.2.2.1, r9.2.2.2.2.2)
        else
          some ((0 : Int32), a_seenRow, s_atp, s_seen, s_opn, s_part)
      else
        some ((1 : Int32), a_seenRow, (s_atp + (1 : Int32)), s_seen, s_opn, (0 : Int32))
    else
      (fX7_sign a_tape s_taped s_atp).bind fun r2 =>
      if r2 = (40 : Int32) then
        if s_opn = (7 : Int32) then
          some ((0 : Int32), a_seenRow, s_atp, s_seen, s_opn, s_part)
        else
          (fX7_sees d a_tape a_seenRow s_taped (s_atp + (1 : Int32)) s_seen (s_opn + (1 : Int32)) s_part (1 : Int32)).bind fun r3 =>
          if r3.1 = 0 then
            some ((0 : Int32), r3.2.1, r3.2.2.1, r3.2.2.2.1, r3.2.2.2.2.1, r3.2.2.2.2.2)
          else
            (fX7_sees d a_tape r3.2.1 s_taped r3.2.2.1 (r3.2.2.2.1 + (1 : Int32)) r3.2.2.2.2.1 r3.2.2.2.2.2 (1 : Int32)).bind fun r4 =>
            if r4.1 = 0 then
              some ((0 : Int32), r4.2.1, r4.2.2.1, r4.2.2.2.1, r4.2.2.2.2.1, r4.2.2.2.2.2)
            else
              (fX7_sign a_tape s_taped r4.2.2.1).bind fun r5 =>
              if r5 = (41 : Int32) then
                (wr 7 r4.2.1 r3.2.2.2.1 r4.2.2.2.2.2).bind fun u6 =>
                some ((1 : Int32), u6, (r4.2.2.1 + (1 : Int32)), r4.2.2.2.1, r4.2.2.2.2.1, (r4.2.2.2.2.2 + (r3.2.2.2.2.2 + (1 : Int32))))
              else
                some ((0 : Int32), r4.2.1, r4.2.2.1, r4.2.2.2.1, r4.2.2.2.2.1, r4.2.2.2.2.2)
      else
        some ((0 : Int32), a_seenRow, s_atp, s_seen, s_opn, s_part)
def fX7_read_B61 (a_seenRow : Nat → Int32) (s_seen : Int32)  (x : (Int32 × Int32)) : Option ((Int32 × Int32) ⊕ Int32) :=
  if s_seen ≤ x.2 then
    some (.inr x.1)
  else
    (rd 7 a_seenRow x.2).bind fun t1 =>
    some (.inl ((((10 : Int32) * x.1) + t1), (x.2 + 1)))
def fX7_read_J39 (a_tape : Nat → Int32) (a_seenRow : Nat → Int32) (s_nodes : Int32) (s_tree : Int32) (s_steps : Int32) (s_taped : Int32) (s_atp : Int32) (s_seen : Int32) (s_opn : Int32) (s_part : Int32)  (k0 : Int32) : Option (Int32 × (Nat → Int32) × Int32 × Int32 × Int32 × Int32 × Int32 × Int32 × Int32 × Int32) :=
  if k0 = 0 then
    some (((-100 : Int32) - s_atp), a_seenRow, s_nodes, s_tree, s_steps, (0 : Int32), s_atp, s_seen, s_opn, s_part)
  else
    (it (fX7_read_B61 a_seenRow s_seen) FU ((0 : Int32), (0 : Int32))).bind fun y1 =>
    some (s_seen, a_seenRow, s_seen, y1, (0 : Int32), (0 : Int32), s_atp, s_seen, s_opn, s_part)
def fX7_read_J38 (a_tape : Nat → Int32) (a_seenRow : Nat → Int32) (s_nodes : Int32) (s_tree : Int32) (s_steps : Int32) (s_taped : Int32) (s_atp : Int32) (s_seen : Int32) (s_opn : Int32) (s_part : Int32)   : Option (Int32 × (Nat → Int32) × Int32 × Int32 × Int32 × Int32 × Int32 × Int32 × Int32 × Int32) :=
  fX7_read_J39 a_tape a_seenRow s_nodes s_tree s_steps s_taped s_atp s_seen s_opn s_part (0 : Int32)
def fX7_read (a_tape : Nat → Int32) (a_seenRow : Nat → Int32) (s_nodes : Int32) (s_tree : Int32) (s_steps : Int32) (s_taped : Int32) (s_atp : Int32) (s_seen : Int32) (s_opn : Int32) (s_part : Int32)  : Option (Int32 × (Nat → Int32) × Int32 × Int32 × Int32 × Int32 × Int32 × Int32 × Int32 × Int32) :=
  (fX7_sees 16 a_tape a_seenRow s_taped (0 : Int32) (0 : Int32) (0 : Int32) s_part (0 : Int32)).bind fun r1 =>
  if r1.1 = 0 then
    fX7_read_J38 a_tape r1.2.1 s_nodes s_tree s_steps s_taped r1.2.2.1 r1.2.2.2.1 r1.2.2.2.2.1 r1.2.2.2.2.2
  else
    if r1.2.2.1 = s_taped then
      fX7_read_J39 a_tape r1.2.1 s_nodes s_tree s_steps s_taped r1.2.2.1 r1.2.2.2.1 r1.2.2.2.2.1 r1.2.2.2.2.2 (1 : Int32)
    else
      fX7_read_J38 a_tape r1.2.1 s_nodes s_tree s_steps s_taped r1.2.2.1 r1.2.2.2.1 r1.2.2.2.2.1 r1.2.2.2.2.2
def fX7_write : Nat → (Nat → Int32) → (Nat → Int32) → (Nat → Int32) → Int32 → Int32 → Option ((Nat → Int32) × Int32)
  | 0, _, _, _, _, _ => none
  | d + 1, a_left, a_right, a_text, s_written, v1 =>
    if v1 = (-5 : Int32) then
      (wr 60 a_text s_written (46 : Int32)).bind fun u7 =>
      some (u7, (s_written + (1 : Int32)))
    else
      (wr 60 a_text s_written (40 : Int32)).bind fun u1 =>
      (rd 7 a_left v1).bind fun t2 =>
      (fX7_write d a_left a_right u1 (s_written + (1 : Int32)) t2).bind fun r3 =>
      (rd 7 a_right v1).bind fun t4 =>
      (fX7_write d a_left a_right r3.1 r3.2 t4).bind fun r5 =>
      (wr 60 r5.1 r5.2 (41 : Int32)).bind fun u6 =>
      some (u6, (r5.2 + (1 : Int32)))
def fX7_written (a_parent : Nat → Int32) (a_left : Nat → Int32) (a_right : Nat → Int32) (a_leftSize : Nat → Int32) (a_above : Nat → Int32) (a_text : Nat → Int32) (s_nodes : Int32) (s_tree : Int32) (s_read : Int32) (s_written : Int32) (v1 : Int32) : Option (Int32 × (Nat → Int32) × (Nat → Int32) × (Nat → Int32) × (Nat → Int32) × (Nat → Int32) × (Nat → Int32) × Int32 × Int32) :=
  (fX7_looks a_parent a_left a_right a_leftSize a_above s_read s_tree s_nodes).bind fun r1 =>
  (fX7_write 16 r1.2.1 r1.2.2.1 a_text (0 : Int32) r1.2.2.2.2.2).bind fun r2 =>
  if v1 = (-1 : Int32) then
    some (r2.2, r1.1, r1.2.1, r1.2.2.1, r1.2.2.2.1, r1.2.2.2.2.1, r2.1, r1.2.2.2.2.2, r2.2)
  else
    (fX7_in (v1.toInt64) (0 : Int64) (((r2.2 - (1 : Int32))).toInt64)).bind fun r3 =>
    if r3 = 0 then
      some ((-1 : Int32), r1.1, r1.2.1, r1.2.2.1, r1.2.2.2.1, r1.2.2.2.2.1, r2.1, r1.2.2.2.2.2, r2.2)
    else
      (rd 60 r2.1 v1).bind fun t4 =>
      some (t4, r1.1, r1.2.1, r1.2.2.1, r1.2.2.2.1, r1.2.2.2.2.1, r2.1, r1.2.2.2.2.2, r2.2)
def fX7_image_B23 (a_shelfNodes : Nat → Int32) (a_shelfTree : Nat → Int32)  (x : (Int32 × (Nat → Int32) × (Nat → Int32))) : Option ((Int32 × (Nat → Int32) × (Nat → Int32)) ⊕ ((Nat → Int32) × (Nat → Int32))) :=
  if (4 : Int32) ≤ x.1 then
    some (.inr (x.2.1, x.2.2))
  else
    (rd 4 a_shelfNodes x.1).bind fun t1 =>
    (wr 4 x.2.1 x.1 t1).bind fun u2 =>
    (rd 4 a_shelfTree x.1).bind fun t3 =>
    (wr 4 x.2.2 x.1 t3).bind fun u4 =>
    some (.inl ((x.1 + 1), u2, u4))
def fX7_image (a_shelfNodes : Nat → Int32) (a_shelfTree : Nat → Int32) (a_imageShelfNodes : Nat → Int32) (a_imageShelfTree : Nat → Int32) (s_nodes : Int32) (s_tree : Int32) (s_imaged : Int32) (s_imageNodes : Int32) (s_imageTree : Int32)  : Option (Int32 × (Nat → Int32) × (Nat → Int32) × Int32 × Int32 × Int32) :=
  (it (fX7_image_B23 a_shelfNodes a_shelfTree) FU ((0 : Int32), a_imageShelfNodes, a_imageShelfTree)).bind fun y1 =>
  some (s_nodes, y1.1, y1.2, (1 : Int32), s_nodes, s_tree)
def fX7_undo_B28 (a_imageShelfNodes : Nat → Int32) (a_imageShelfTree : Nat → Int32)  (x : (Int32 × (Nat → Int32) × (Nat → Int32))) : Option ((Int32 × (Nat → Int32) × (Nat → Int32)) ⊕ ((Nat → Int32) × (Nat → Int32))) :=
  if (4 : Int32) ≤ x.1 then
    some (.inr (x.2.1, x.2.2))
  else
    (rd 4 a_imageShelfNodes x.1).bind fun t1 =>
    (wr 4 x.2.1 x.1 t1).bind fun u2 =>
    (rd 4 a_imageShelfTree x.1).bind fun t3 =>
    (wr 4 x.2.2 x.1 t3).bind fun u4 =>
    some (.inl ((x.1 + 1), u2, u4))
def fX7_undo (a_shelfNodes : Nat → Int32) (a_shelfTree : Nat → Int32) (a_imageShelfNodes : Nat → Int32) (a_imageShelfTree : Nat → Int32) (s_nodes : Int32) (s_tree : Int32) (s_steps : Int32) (s_imaged : Int32) (s_imageNodes : Int32) (s_imageTree : Int32)  : Option (Int32 × (Nat → Int32) × (Nat → Int32) × Int32 × Int32 × Int32) :=
  if s_imaged = 0 then
    some ((-3 : Int32), a_shelfNodes, a_shelfTree, s_nodes, s_tree, s_steps)
  else
    (it (fX7_undo_B28 a_imageShelfNodes a_imageShelfTree) FU ((0 : Int32), a_shelfNodes, a_shelfTree)).bind fun y1 =>
    some (s_imageNodes, y1.1, y1.2, s_imageNodes, s_imageTree, (0 : Int32))
def fX7_count_J70 (a_shelfNodes : Nat → Int32) (v2 : Int32) (v3 : Int32)  : Option ((Int32 × Int32) ⊕ Int32) :=
  some (.inl (v2, (v3 + 1)))
def fX7_count_B53 (a_shelfNodes : Nat → Int32)  (x : (Int32 × Int32)) : Option ((Int32 × Int32) ⊕ Int32) :=
  if (4 : Int32) ≤ x.2 then
    some (.inr x.1)
  else
    (rd 4 a_shelfNodes x.2).bind fun t1 =>
    if t1 ≤ 0 then
      fX7_count_J70 a_shelfNodes x.1 x.2
    else
      fX7_count_J70 a_shelfNodes (x.1 + 1) x.2
def fX7_count_J97 (a_listSize : Nat → Int32) (v2 : Int32) (v3 : Int32)  : Option ((Int32 × Int32) ⊕ Int32) :=
  some (.inl (v2, (v3 + 1)))
def fX7_count_B80 (a_listSize : Nat → Int32)  (x : (Int32 × Int32)) : Option ((Int32 × Int32) ⊕ Int32) :=
  if (3 : Int32) ≤ x.2 then
    some (.inr x.1)
  else
    (rd 3 a_listSize x.2).bind fun t1 =>
    if t1 < 0 then
      fX7_count_J97 a_listSize x.1 x.2
    else
      fX7_count_J97 a_listSize (x.1 + 1) x.2
def fX7_count (a_shelfNodes : Nat → Int32) (a_listSize : Nat → Int32) (s_nodes : Int32) (s_steps : Int32) (s_taped : Int32) (v1 : Int32) : Option Int32 :=
  if v1 = 0 then
    some s_nodes
  else
    if v1 = 1 then
      some s_steps
    else
      if v1 = 2 then
        some s_taped
      else
        if v1 = 3 then
          (it (fX7_count_B53 a_shelfNodes) FU ((0 : Int32), (0 : Int32))).bind fun y1 =>
          some y1
        else
          if v1 = 4 then
            (it (fX7_count_B80 a_listSize) FU ((0 : Int32), (0 : Int32))).bind fun y2 =>
            some y2
          else
            some (-1 : Int32)
end
section
set_option maxHeartbeats 4000000 in
theorem tJ0_bitCount {l : Launch} {D : va_G} {ct : Nat → ClassId} {tF : Nat} {wOf : Mm → va_W} (M : Mm) {v0 : Int32} {r : Int32} (h : fJ0_bitCount v0 = some r) : CtI l yJ0_bitCount prog_10_method_49_code 1 .int { frames := 0, cells := 0, slots := 0, locals := 0 } D ct tF wOf [.int v0] M r M := by
  refine metI (by decide) (Nat.le_of_ble_eq_true rfl) fun κ X e1 eR e3 e4 hs => ?_
  subst e1; subst e3; subst e4
  unfold fJ0_bitCount at h
  refine z_sub (lv' := [(0, .int v0)]) [0] rfl ?_
  refine z_iload_n X dJ0_bitCount_0 0 rfl rfl ?_
  refine z_iload_n X dJ0_bitCount_1 0 rfl rfl ?_
  refine z_iconst (v := (1 : Int32)) X dJ0_bitCount_2 (by decide) ?_
  refine z_iushr X dJ0_bitCount_3 ?_
  refine z_ldcw X w_127 dJ0_bitCount_4 ?_
  refine z_iand X dJ0_bitCount_7 ?_
  refine z_isub X dJ0_bitCount_8 ?_
  refine z_istore_n (lv' := [(0, .int (v0 - ((((v0).toUInt32 >>> (((1 : Int32)).toUInt32 &&& Int32.toUInt32 31)).toInt32) &&& (1431655765 : Int32))))]) X dJ0_bitCount_9 rfl (by decide) rfl ?_
  refine z_iload_n X dJ0_bitCount_10 0 rfl rfl ?_
  refine z_ldcw X w_128 dJ0_bitCount_11 ?_
  refine z_iand X dJ0_bitCount_14 ?_
  refine z_iload_n X dJ0_bitCount_15 0 rfl rfl ?_
  refine z_iconst (v := (2 : Int32)) X dJ0_bitCount_16 (by decide) ?_
  refine z_iushr X dJ0_bitCount_17 ?_
  refine z_ldcw X w_128 dJ0_bitCount_18 ?_
  refine z_iand X dJ0_bitCount_21 ?_
  refine z_iadd X dJ0_bitCount_22 ?_
  refine z_istore_n (lv' := [(0, .int (((v0 - ((((v0).toUInt32 >>> (((1 : Int32)).toUInt32 &&& Int32.toUInt32 31)).toInt32) &&& (1431655765 : Int32))) &&& (858993459 : Int32)) + (((((v0 - ((((v0).toUInt32 >>> (((1 : Int32)).toUInt32 &&& Int32.toUInt32 31)).toInt32) &&& (1431655765 : Int32)))).toUInt32 >>> (((2 : Int32)).toUInt32 &&& Int32.toUInt32 31)).toInt32) &&& (858993459 : Int32))))]) X dJ0_bitCount_23 rfl (by decide) rfl ?_
  refine z_iload_n X dJ0_bitCount_24 0 rfl rfl ?_
  refine z_iload_n X dJ0_bitCount_25 0 rfl rfl ?_
  refine z_iconst (v := (4 : Int32)) X dJ0_bitCount_26 (by decide) ?_
  refine z_iushr X dJ0_bitCount_27 ?_
  refine z_iadd X dJ0_bitCount_28 ?_
  refine z_ldcw X w_129 dJ0_bitCount_29 ?_
  refine z_iand X dJ0_bitCount_32 ?_
  refine z_istore_n (lv' := [(0, .int (((((v0 - ((((v0).toUInt32 >>> (((1 : Int32)).toUInt32 &&& Int32.toUInt32 31)).toInt32) &&& (1431655765 : Int32))) &&& (858993459 : Int32)) + (((((v0 - ((((v0).toUInt32 >>> (((1 : Int32)).toUInt32 &&& Int32.toUInt32 31)).toInt32) &&& (1431655765 : Int32)))).toUInt32 >>> (((2 : Int32)).toUInt32 &&& Int32.toUInt32 31)).toInt32) &&& (858993459 : Int32))) + ((((((v0 - ((((v0).toUInt32 >>> (((1 : Int32)).toUInt32 &&& Int32.toUInt32 31)).toInt32) &&& (1431655765 : Int32))) &&& (858993459 : Int32)) + (((((v0 - ((((v0).toUInt32 >>> (((1 : Int32)).toUInt32 &&& Int32.toUInt32 31)).toInt32) &&& (1431655765 : Int32)))).toUInt32 >>> (((2 : Int32)).toUInt32 &&& Int32.toUInt32 31)).toInt32) &&& (858993459 : Int32)))).toUInt32 >>> (((4 : Int32)).toUInt32 &&& Int32.toUInt32 31)).toInt32)) &&& (252645135 : Int32)))]) X dJ0_bitCount_33 rfl (by decide) rfl ?_
  refine z_iload_n X dJ0_bitCount_34 0 rfl rfl ?_
  refine z_iload_n X dJ0_bitCount_35 0 rfl rfl ?_
  refine z_bipush (v := (8 : Int32)) X dJ0_bitCount_36 (by decide) ?_
  refine z_iushr X dJ0_bitCount_38 ?_
  refine z_iadd X dJ0_bitCount_39 ?_
  refine z_istore_n (lv' := [(0, .int ((((((v0 - ((((v0).toUInt32 >>> (((1 : Int32)).toUInt32 &&& Int32.toUInt32 31)).toInt32) &&& (1431655765 : Int32))) &&& (858993459 : Int32)) + (((((v0 - ((((v0).toUInt32 >>> (((1 : Int32)).toUInt32 &&& Int32.toUInt32 31)).toInt32) &&& (1431655765 : Int32)))).toUInt32 >>> (((2 : Int32)).toUInt32 &&& Int32.toUInt32 31)).toInt32) &&& (858993459 : Int32))) + ((((((v0 - ((((v0).toUInt32 >>> (((1 : Int32)).toUInt32 &&& Int32.toUInt32 31)).toInt32) &&& (1431655765 : Int32))) &&& (858993459 : Int32)) + (((((v0 - ((((v0).toUInt32 >>> (((1 : Int32)).toUInt32 &&& Int32.toUInt32 31)).toInt32) &&& (1431655765 : Int32)))).toUInt32 >>> (((2 : Int32)).toUInt32 &&& Int32.toUInt32 31)).toInt32) &&& (858993459 : Int32)))).toUInt32 >>> (((4 : Int32)).toUInt32 &&& Int32.toUInt32 31)).toInt32)) &&& (252645135 : Int32)) + ((((((((v0 - ((((v0).toUInt32 >>> (((1 : Int32)).toUInt32 &&& Int32.toUInt32 31)).toInt32) &&& (1431655765 : Int32))) &&& (858993459 : Int32)) + (((((v0 - ((((v0).toUInt32 >>> (((1 : Int32)).toUInt32 &&& Int32.toUInt32 31)).toInt32) &&& (1431655765 : Int32)))).toUInt32 >>> (((2 : Int32)).toUInt32 &&& Int32.toUInt32 31)).toInt32) &&& (858993459 : Int32))) + ((((((v0 - ((((v0).toUInt32 >>> (((1 : Int32)).toUInt32 &&& Int32.toUInt32 31)).toInt32) &&& (1431655765 : Int32))) &&& (858993459 : Int32)) + (((((v0 - ((((v0).toUInt32 >>> (((1 : Int32)).toUInt32 &&& Int32.toUInt32 31)).toInt32) &&& (1431655765 : Int32)))).toUInt32 >>> (((2 : Int32)).toUInt32 &&& Int32.toUInt32 31)).toInt32) &&& (858993459 : Int32)))).toUInt32 >>> (((4 : Int32)).toUInt32 &&& Int32.toUInt32 31)).toInt32)) &&& (252645135 : Int32))).toUInt32 >>> (((8 : Int32)).toUInt32 &&& Int32.toUInt32 31)).toInt32)))]) X dJ0_bitCount_40 rfl (by decide) rfl ?_
  refine z_iload_n X dJ0_bitCount_41 0 rfl rfl ?_
  refine z_iload_n X dJ0_bitCount_42 0 rfl rfl ?_
  refine z_bipush (v := (16 : Int32)) X dJ0_bitCount_43 (by decide) ?_
  refine z_iushr X dJ0_bitCount_45 ?_
  refine z_iadd X dJ0_bitCount_46 ?_
  refine z_istore_n (lv' := [(0, .int (((((((v0 - ((((v0).toUInt32 >>> (((1 : Int32)).toUInt32 &&& Int32.toUInt32 31)).toInt32) &&& (1431655765 : Int32))) &&& (858993459 : Int32)) + (((((v0 - ((((v0).toUInt32 >>> (((1 : Int32)).toUInt32 &&& Int32.toUInt32 31)).toInt32) &&& (1431655765 : Int32)))).toUInt32 >>> (((2 : Int32)).toUInt32 &&& Int32.toUInt32 31)).toInt32) &&& (858993459 : Int32))) + ((((((v0 - ((((v0).toUInt32 >>> (((1 : Int32)).toUInt32 &&& Int32.toUInt32 31)).toInt32) &&& (1431655765 : Int32))) &&& (858993459 : Int32)) + (((((v0 - ((((v0).toUInt32 >>> (((1 : Int32)).toUInt32 &&& Int32.toUInt32 31)).toInt32) &&& (1431655765 : Int32)))).toUInt32 >>> (((2 : Int32)).toUInt32 &&& Int32.toUInt32 31)).toInt32) &&& (858993459 : Int32)))).toUInt32 >>> (((4 : Int32)).toUInt32 &&& Int32.toUInt32 31)).toInt32)) &&& (252645135 : Int32)) + ((((((((v0 - ((((v0).toUInt32 >>> (((1 : Int32)).toUInt32 &&& Int32.toUInt32 31)).toInt32) &&& (1431655765 : Int32))) &&& (858993459 : Int32)) + (((((v0 - ((((v0).toUInt32 >>> (((1 : Int32)).toUInt32 &&& Int32.toUInt32 31)).toInt32) &&& (1431655765 : Int32)))).toUInt32 >>> (((2 : Int32)).toUInt32 &&& Int32.toUInt32 31)).toInt32) &&& (858993459 : Int32))) + ((((((v0 - ((((v0).toUInt32 >>> (((1 : Int32)).toUInt32 &&& Int32.toUInt32 31)).toInt32) &&& (1431655765 : Int32))) &&& (858993459 : Int32)) + (((((v0 - ((((v0).toUInt32 >>> (((1 : Int32)).toUInt32 &&& Int32.toUInt32 31)).toInt32) &&& (1431655765 : Int32)))).toUInt32 >>> (((2 : Int32)).toUInt32 &&& Int32.toUInt32 31)).toInt32) &&& (858993459 : Int32)))).toUInt32 >>> (((4 : Int32)).toUInt32 &&& Int32.toUInt32 31)).toInt32)) &&& (252645135 : Int32))).toUInt32 >>> (((8 : Int32)).toUInt32 &&& Int32.toUInt32 31)).toInt32)) + (((((((((v0 - ((((v0).toUInt32 >>> (((1 : Int32)).toUInt32 &&& Int32.toUInt32 31)).toInt32) &&& (1431655765 : Int32))) &&& (858993459 : Int32)) + (((((v0 - ((((v0).toUInt32 >>> (((1 : Int32)).toUInt32 &&& Int32.toUInt32 31)).toInt32) &&& (1431655765 : Int32)))).toUInt32 >>> (((2 : Int32)).toUInt32 &&& Int32.toUInt32 31)).toInt32) &&& (858993459 : Int32))) + ((((((v0 - ((((v0).toUInt32 >>> (((1 : Int32)).toUInt32 &&& Int32.toUInt32 31)).toInt32) &&& (1431655765 : Int32))) &&& (858993459 : Int32)) + (((((v0 - ((((v0).toUInt32 >>> (((1 : Int32)).toUInt32 &&& Int32.toUInt32 31)).toInt32) &&& (1431655765 : Int32)))).toUInt32 >>> (((2 : Int32)).toUInt32 &&& Int32.toUInt32 31)).toInt32) &&& (858993459 : Int32)))).toUInt32 >>> (((4 : Int32)).toUInt32 &&& Int32.toUInt32 31)).toInt32)) &&& (252645135 : Int32)) + ((((((((v0 - ((((v0).toUInt32 >>> (((1 : Int32)).toUInt32 &&& Int32.toUInt32 31)).toInt32) &&& (1431655765 : Int32))) &&& (858993459 : Int32)) + (((((v0 - ((((v0).toUInt32 >>> (((1 : Int32)).toUInt32 &&& Int32.toUInt32 31)).toInt32) &&& (1431655765 : Int32)))).toUInt32 >>> (((2 : Int32)).toUInt32 &&& Int32.toUInt32 31)).toInt32) &&& (858993459 : Int32))) + ((((((v0 - ((((v0).toUInt32 >>> (((1 : Int32)).toUInt32 &&& Int32.toUInt32 31)).toInt32) &&& (1431655765 : Int32))) &&& (858993459 : Int32)) + (((((v0 - ((((v0).toUInt32 >>> (((1 : Int32)).toUInt32 &&& Int32.toUInt32 31)).toInt32) &&& (1431655765 : Int32)))).toUInt32 >>> (((2 : Int32)).toUInt32 &&& Int32.toUInt32 31)).toInt32) &&& (858993459 : Int32)))).toUInt32 >>> (((4 : Int32)).toUInt32 &&& Int32.toUInt32 31)).toInt32)) &&& (252645135 : Int32))).toUInt32 >>> (((8 : Int32)).toUInt32 &&& Int32.toUInt32 31)).toInt32))).toUInt32 >>> (((16 : Int32)).toUInt32 &&& Int32.toUInt32 31)).toInt32)))]) X dJ0_bitCount_47 rfl (by decide) rfl ?_
  refine z_iload_n X dJ0_bitCount_48 0 rfl rfl ?_
  refine z_bipush (v := (63 : Int32)) X dJ0_bitCount_49 (by decide) ?_
  refine z_iand X dJ0_bitCount_51 ?_
  cases h
  exact z_iret hs dJ0_bitCount_52 rfl
end

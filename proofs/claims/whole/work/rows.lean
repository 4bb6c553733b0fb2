section
/-- a private method of a class that the tables say can be made, by its rows of tables_1 -/
def lw_okq (q : MethodName × Nat) : Prop := (q.1.cls ≠ "java/lang/invoke/MethodHandle" ∧ q.1.cls ≠ "java/lang/invoke/VarHandle") ∧ Cond.instantiable q.1.cls q.2 ∈ tables_1 ∧ Cond.privateMethod q.1 ∈ tables_1 ∧ Cond.instanceMethod q.1 ∈ tables_1
theorem lw_p0 : lw_okq (⟨"RunnerNet$Text", "readLine", "(I)Z"⟩, 9) := ⟨⟨by decide +kernel, by decide +kernel⟩, List.mem_of_getElem? (i := 64) (by decide +kernel), List.mem_of_getElem? (i := 340) (by decide +kernel), List.mem_of_getElem? (i := 341) (by decide +kernel)⟩
theorem lw_p1 : lw_okq (⟨"RunnerNet$Text", "nextToken", "()V"⟩, 9) := ⟨⟨by decide +kernel, by decide +kernel⟩, List.mem_of_getElem? (i := 64) (by decide +kernel), List.mem_of_getElem? (i := 344) (by decide +kernel), List.mem_of_getElem? (i := 345) (by decide +kernel)⟩
theorem lw_p2 : lw_okq (⟨"RunnerNet$Text", "byteAt", "(I)I"⟩, 9) := ⟨⟨by decide +kernel, by decide +kernel⟩, List.mem_of_getElem? (i := 64) (by decide +kernel), List.mem_of_getElem? (i := 348) (by decide +kernel), List.mem_of_getElem? (i := 349) (by decide +kernel)⟩
theorem lw_p3 : lw_okq (⟨"RunnerNet$Text", "kindAt", "(I)I"⟩, 9) := ⟨⟨by decide +kernel, by decide +kernel⟩, List.mem_of_getElem? (i := 64) (by decide +kernel), List.mem_of_getElem? (i := 355) (by decide +kernel), List.mem_of_getElem? (i := 356) (by decide +kernel)⟩
theorem lw_p4 : lw_okq (⟨"RunnerNet$Text", "lineKind", "()I"⟩, 9) := ⟨⟨by decide +kernel, by decide +kernel⟩, List.mem_of_getElem? (i := 64) (by decide +kernel), List.mem_of_getElem? (i := 359) (by decide +kernel), List.mem_of_getElem? (i := 360) (by decide +kernel)⟩
theorem lw_p5 : lw_okq (⟨"RunnerNet$Text", "isWord", "(Ljava/lang/String;)Z"⟩, 9) := ⟨⟨by decide +kernel, by decide +kernel⟩, List.mem_of_getElem? (i := 64) (by decide +kernel), List.mem_of_getElem? (i := 364) (by decide +kernel), List.mem_of_getElem? (i := 365) (by decide +kernel)⟩
theorem lw_p6 : lw_okq (⟨"RunnerNet$Text", "number", "()I"⟩, 9) := ⟨⟨by decide +kernel, by decide +kernel⟩, List.mem_of_getElem? (i := 64) (by decide +kernel), List.mem_of_getElem? (i := 418) (by decide +kernel), List.mem_of_getElem? (i := 419) (by decide +kernel)⟩
theorem lw_p7 : lw_okq (⟨"RunnerNet", "refuseStand", "(IIII)I"⟩, 10) := ⟨⟨by decide +kernel, by decide +kernel⟩, List.mem_of_getElem? (i := 22) (by decide +kernel), List.mem_of_getElem? (i := 480) (by decide +kernel), List.mem_of_getElem? (i := 481) (by decide +kernel)⟩
theorem lw_p8 : lw_okq (⟨"RunnerNet", "settings", "(I)LRunnerNet$Settings;"⟩, 10) := ⟨⟨by decide +kernel, by decide +kernel⟩, List.mem_of_getElem? (i := 22) (by decide +kernel), List.mem_of_getElem? (i := 487) (by decide +kernel), List.mem_of_getElem? (i := 488) (by decide +kernel)⟩
theorem lw_p9 : lw_okq (⟨"RunnerNet", "chase", "(II)LRunnerNet$Chase;"⟩, 10) := ⟨⟨by decide +kernel, by decide +kernel⟩, List.mem_of_getElem? (i := 22) (by decide +kernel), List.mem_of_getElem? (i := 500) (by decide +kernel), List.mem_of_getElem? (i := 501) (by decide +kernel)⟩
theorem lw_p10 : lw_okq (⟨"RunnerNet$Chase", "begin", "()V"⟩, 8) := ⟨⟨by decide +kernel, by decide +kernel⟩, List.mem_of_getElem? (i := 123) (by decide +kernel), List.mem_of_getElem? (i := 512) (by decide +kernel), List.mem_of_getElem? (i := 513) (by decide +kernel)⟩
theorem lw_p11 : lw_okq (⟨"RunnerNet$Chase", "trap", "()V"⟩, 8) := ⟨⟨by decide +kernel, by decide +kernel⟩, List.mem_of_getElem? (i := 123) (by decide +kernel), List.mem_of_getElem? (i := 529) (by decide +kernel), List.mem_of_getElem? (i := 530) (by decide +kernel)⟩
theorem lw_p12 : lw_okq (⟨"RunnerNet$Chase", "widen", "(I)V"⟩, 8) := ⟨⟨by decide +kernel, by decide +kernel⟩, List.mem_of_getElem? (i := 123) (by decide +kernel), List.mem_of_getElem? (i := 546) (by decide +kernel), List.mem_of_getElem? (i := 547) (by decide +kernel)⟩
theorem lw_p13 : lw_okq (⟨"RunnerNet$Chase", "joinRows", "(III)V"⟩, 8) := ⟨⟨by decide +kernel, by decide +kernel⟩, List.mem_of_getElem? (i := 123) (by decide +kernel), List.mem_of_getElem? (i := 553) (by decide +kernel), List.mem_of_getElem? (i := 554) (by decide +kernel)⟩
theorem lw_p14 : lw_okq (⟨"RunnerNet$Chase", "note", "(I)Z"⟩, 8) := ⟨⟨by decide +kernel, by decide +kernel⟩, List.mem_of_getElem? (i := 123) (by decide +kernel), List.mem_of_getElem? (i := 561) (by decide +kernel), List.mem_of_getElem? (i := 562) (by decide +kernel)⟩
theorem lw_p15 : lw_okq (⟨"RunnerNet$Chase", "leftAt", "(II)I"⟩, 8) := ⟨⟨by decide +kernel, by decide +kernel⟩, List.mem_of_getElem? (i := 123) (by decide +kernel), List.mem_of_getElem? (i := 569) (by decide +kernel), List.mem_of_getElem? (i := 570) (by decide +kernel)⟩
def lw_privs_1 : List (MethodName × Nat) := [(⟨"RunnerNet$Text", "readLine", "(I)Z"⟩, 9), (⟨"RunnerNet$Text", "nextToken", "()V"⟩, 9), (⟨"RunnerNet$Text", "byteAt", "(I)I"⟩, 9), (⟨"RunnerNet$Text", "kindAt", "(I)I"⟩, 9), (⟨"RunnerNet$Text", "lineKind", "()I"⟩, 9), (⟨"RunnerNet$Text", "isWord", "(Ljava/lang/String;)Z"⟩, 9), (⟨"RunnerNet$Text", "number", "()I"⟩, 9), (⟨"RunnerNet", "refuseStand", "(IIII)I"⟩, 10), (⟨"RunnerNet", "settings", "(I)LRunnerNet$Settings;"⟩, 10), (⟨"RunnerNet", "chase", "(II)LRunnerNet$Chase;"⟩, 10), (⟨"RunnerNet$Chase", "begin", "()V"⟩, 8), (⟨"RunnerNet$Chase", "trap", "()V"⟩, 8), (⟨"RunnerNet$Chase", "widen", "(I)V"⟩, 8), (⟨"RunnerNet$Chase", "joinRows", "(III)V"⟩, 8), (⟨"RunnerNet$Chase", "note", "(I)Z"⟩, 8), (⟨"RunnerNet$Chase", "leftAt", "(II)I"⟩, 8)]
theorem lw_r1 : ∀ q ∈ lw_privs_1, lw_okq q := List.forall_mem_cons.mpr ⟨lw_p0, List.forall_mem_cons.mpr ⟨lw_p1, List.forall_mem_cons.mpr ⟨lw_p2, List.forall_mem_cons.mpr ⟨lw_p3, List.forall_mem_cons.mpr ⟨lw_p4, List.forall_mem_cons.mpr ⟨lw_p5, List.forall_mem_cons.mpr ⟨lw_p6, List.forall_mem_cons.mpr ⟨lw_p7, List.forall_mem_cons.mpr ⟨lw_p8, List.forall_mem_cons.mpr ⟨lw_p9, List.forall_mem_cons.mpr ⟨lw_p10, List.forall_mem_cons.mpr ⟨lw_p11, List.forall_mem_cons.mpr ⟨lw_p12, List.forall_mem_cons.mpr ⟨lw_p13, List.forall_mem_cons.mpr ⟨lw_p14, List.forall_mem_cons.mpr ⟨lw_p15, fun _ h => absurd h List.not_mem_nil⟩⟩⟩⟩⟩⟩⟩⟩⟩⟩⟩⟩⟩⟩⟩⟩
theorem lw_p16 : lw_okq (⟨"RunnerNet$Chase", "mostAmong", "(II)I"⟩, 8) := ⟨⟨by decide +kernel, by decide +kernel⟩, List.mem_of_getElem? (i := 123) (by decide +kernel), List.mem_of_getElem? (i := 581) (by decide +kernel), List.mem_of_getElem? (i := 582) (by decide +kernel)⟩
theorem lw_p17 : lw_okq (⟨"RunnerNet", "isCaught", "()Z"⟩, 10) := ⟨⟨by decide +kernel, by decide +kernel⟩, List.mem_of_getElem? (i := 22) (by decide +kernel), List.mem_of_getElem? (i := 674) (by decide +kernel), List.mem_of_getElem? (i := 675) (by decide +kernel)⟩
theorem lw_p18 : lw_okq (⟨"RunnerNet", "settingBehind", "(I)I"⟩, 10) := ⟨⟨by decide +kernel, by decide +kernel⟩, List.mem_of_getElem? (i := 22) (by decide +kernel), List.mem_of_getElem? (i := 690) (by decide +kernel), List.mem_of_getElem? (i := 691) (by decide +kernel)⟩
theorem lw_p19 : lw_okq (⟨"RunnerNet", "placeBehind", "(II)I"⟩, 10) := ⟨⟨by decide +kernel, by decide +kernel⟩, List.mem_of_getElem? (i := 22) (by decide +kernel), List.mem_of_getElem? (i := 699) (by decide +kernel), List.mem_of_getElem? (i := 700) (by decide +kernel)⟩
theorem lw_p20 : lw_okq (⟨"RunnerNet$Unseen", "meet", "(III)V"⟩, 10) := ⟨⟨by decide +kernel, by decide +kernel⟩, List.mem_of_getElem? (i := 183) (by decide +kernel), List.mem_of_getElem? (i := 744) (by decide +kernel), List.mem_of_getElem? (i := 745) (by decide +kernel)⟩
theorem lw_p21 : lw_okq (⟨"RunnerNet$Unseen", "expand", "(I)V"⟩, 10) := ⟨⟨by decide +kernel, by decide +kernel⟩, List.mem_of_getElem? (i := 183) (by decide +kernel), List.mem_of_getElem? (i := 749) (by decide +kernel), List.mem_of_getElem? (i := 750) (by decide +kernel)⟩
theorem lw_p22 : lw_okq (⟨"RunnerNet$Unseen", "step", "(II)V"⟩, 10) := ⟨⟨by decide +kernel, by decide +kernel⟩, List.mem_of_getElem? (i := 183) (by decide +kernel), List.mem_of_getElem? (i := 756) (by decide +kernel), List.mem_of_getElem? (i := 757) (by decide +kernel)⟩
theorem lw_p23 : lw_okq (⟨"RunnerNet$Unseen", "depthOf", "(I)I"⟩, 10) := ⟨⟨by decide +kernel, by decide +kernel⟩, List.mem_of_getElem? (i := 183) (by decide +kernel), List.mem_of_getElem? (i := 761) (by decide +kernel), List.mem_of_getElem? (i := 762) (by decide +kernel)⟩
theorem lw_p24 : lw_okq (⟨"RunnerNet$Unseen", "parentOf", "(I)I"⟩, 10) := ⟨⟨by decide +kernel, by decide +kernel⟩, List.mem_of_getElem? (i := 183) (by decide +kernel), List.mem_of_getElem? (i := 765) (by decide +kernel), List.mem_of_getElem? (i := 766) (by decide +kernel)⟩
theorem lw_p25 : lw_okq (⟨"RunnerNet$Orders", "solve", "()V"⟩, 5) := ⟨⟨by decide +kernel, by decide +kernel⟩, List.mem_of_getElem? (i := 220) (by decide +kernel), List.mem_of_getElem? (i := 789) (by decide +kernel), List.mem_of_getElem? (i := 790) (by decide +kernel)⟩
theorem lw_p26 : lw_okq (⟨"RunnerNet$Orders", "most", "(II)I"⟩, 5) := ⟨⟨by decide +kernel, by decide +kernel⟩, List.mem_of_getElem? (i := 220) (by decide +kernel), List.mem_of_getElem? (i := 798) (by decide +kernel), List.mem_of_getElem? (i := 799) (by decide +kernel)⟩
theorem lw_p27 : lw_okq (⟨"RunnerNet$Orders", "neighbours", "(II)I"⟩, 5) := ⟨⟨by decide +kernel, by decide +kernel⟩, List.mem_of_getElem? (i := 220) (by decide +kernel), List.mem_of_getElem? (i := 802) (by decide +kernel), List.mem_of_getElem? (i := 803) (by decide +kernel)⟩
theorem lw_p28 : lw_okq (⟨"RunnerNet$Orders", "border", "(I)I"⟩, 5) := ⟨⟨by decide +kernel, by decide +kernel⟩, List.mem_of_getElem? (i := 220) (by decide +kernel), List.mem_of_getElem? (i := 811) (by decide +kernel), List.mem_of_getElem? (i := 812) (by decide +kernel)⟩
theorem lw_p29 : lw_okq (⟨"RunnerNet$Orders", "choose", "()V"⟩, 5) := ⟨⟨by decide +kernel, by decide +kernel⟩, List.mem_of_getElem? (i := 220) (by decide +kernel), List.mem_of_getElem? (i := 816) (by decide +kernel), List.mem_of_getElem? (i := 817) (by decide +kernel)⟩
theorem lw_p30 : lw_okq (⟨"RunnerNet$Covers", "leastCovered", "(I)I"⟩, 1) := ⟨⟨by decide +kernel, by decide +kernel⟩, List.mem_of_getElem? (i := 242) (by decide +kernel), List.mem_of_getElem? (i := 834) (by decide +kernel), List.mem_of_getElem? (i := 835) (by decide +kernel)⟩
theorem lw_p31 : lw_okq (⟨"RunnerNet$Covers", "isCovered", "(II)Z"⟩, 1) := ⟨⟨by decide +kernel, by decide +kernel⟩, List.mem_of_getElem? (i := 242) (by decide +kernel), List.mem_of_getElem? (i := 840) (by decide +kernel), List.mem_of_getElem? (i := 841) (by decide +kernel)⟩
def lw_privs_2 : List (MethodName × Nat) := [(⟨"RunnerNet$Chase", "mostAmong", "(II)I"⟩, 8), (⟨"RunnerNet", "isCaught", "()Z"⟩, 10), (⟨"RunnerNet", "settingBehind", "(I)I"⟩, 10), (⟨"RunnerNet", "placeBehind", "(II)I"⟩, 10), (⟨"RunnerNet$Unseen", "meet", "(III)V"⟩, 10), (⟨"RunnerNet$Unseen", "expand", "(I)V"⟩, 10), (⟨"RunnerNet$Unseen", "step", "(II)V"⟩, 10), (⟨"RunnerNet$Unseen", "depthOf", "(I)I"⟩, 10), (⟨"RunnerNet$Unseen", "parentOf", "(I)I"⟩, 10), (⟨"RunnerNet$Orders", "solve", "()V"⟩, 5), (⟨"RunnerNet$Orders", "most", "(II)I"⟩, 5), (⟨"RunnerNet$Orders", "neighbours", "(II)I"⟩, 5), (⟨"RunnerNet$Orders", "border", "(I)I"⟩, 5), (⟨"RunnerNet$Orders", "choose", "()V"⟩, 5), (⟨"RunnerNet$Covers", "leastCovered", "(I)I"⟩, 1), (⟨"RunnerNet$Covers", "isCovered", "(II)Z"⟩, 1)]
theorem lw_r2 : ∀ q ∈ lw_privs_2, lw_okq q := List.forall_mem_cons.mpr ⟨lw_p16, List.forall_mem_cons.mpr ⟨lw_p17, List.forall_mem_cons.mpr ⟨lw_p18, List.forall_mem_cons.mpr ⟨lw_p19, List.forall_mem_cons.mpr ⟨lw_p20, List.forall_mem_cons.mpr ⟨lw_p21, List.forall_mem_cons.mpr ⟨lw_p22, List.forall_mem_cons.mpr ⟨lw_p23, List.forall_mem_cons.mpr ⟨lw_p24, List.forall_mem_cons.mpr ⟨lw_p25, List.forall_mem_cons.mpr ⟨lw_p26, List.forall_mem_cons.mpr ⟨lw_p27, List.forall_mem_cons.mpr ⟨lw_p28, List.forall_mem_cons.mpr ⟨lw_p29, List.forall_mem_cons.mpr ⟨lw_p30, List.forall_mem_cons.mpr ⟨lw_p31, fun _ h => absurd h List.not_mem_nil⟩⟩⟩⟩⟩⟩⟩⟩⟩⟩⟩⟩⟩⟩⟩⟩
theorem lw_p32 : lw_okq (⟨"RunnerNet$Covers", "touchesAll", "(I)Z"⟩, 1) := ⟨⟨by decide +kernel, by decide +kernel⟩, List.mem_of_getElem? (i := 242) (by decide +kernel), List.mem_of_getElem? (i := 858) (by decide +kernel), List.mem_of_getElem? (i := 859) (by decide +kernel)⟩
theorem lw_p33 : lw_okq (⟨"RunnerNet", "isWatch", "(II)Z"⟩, 10) := ⟨⟨by decide +kernel, by decide +kernel⟩, List.mem_of_getElem? (i := 22) (by decide +kernel), List.mem_of_getElem? (i := 867) (by decide +kernel), List.mem_of_getElem? (i := 868) (by decide +kernel)⟩
theorem lw_p34 : lw_okq (⟨"RunnerNet$Guards", "solve", "()V"⟩, 5) := ⟨⟨by decide +kernel, by decide +kernel⟩, List.mem_of_getElem? (i := 253) (by decide +kernel), List.mem_of_getElem? (i := 875) (by decide +kernel), List.mem_of_getElem? (i := 876) (by decide +kernel)⟩
theorem lw_p35 : lw_okq (⟨"RunnerNet$Guards", "moveAlone", "()V"⟩, 5) := ⟨⟨by decide +kernel, by decide +kernel⟩, List.mem_of_getElem? (i := 253) (by decide +kernel), List.mem_of_getElem? (i := 883) (by decide +kernel), List.mem_of_getElem? (i := 884) (by decide +kernel)⟩
theorem lw_p36 : lw_okq (⟨"RunnerNet$Guards", "moveTogether", "()V"⟩, 5) := ⟨⟨by decide +kernel, by decide +kernel⟩, List.mem_of_getElem? (i := 253) (by decide +kernel), List.mem_of_getElem? (i := 894) (by decide +kernel), List.mem_of_getElem? (i := 895) (by decide +kernel)⟩
theorem lw_p37 : lw_okq (⟨"RunnerNet$Guards", "addPlace", "(III)V"⟩, 5) := ⟨⟨by decide +kernel, by decide +kernel⟩, List.mem_of_getElem? (i := 253) (by decide +kernel), List.mem_of_getElem? (i := 898) (by decide +kernel), List.mem_of_getElem? (i := 899) (by decide +kernel)⟩
theorem lw_p38 : lw_okq (⟨"RunnerNet$Guards", "dropUnsafe", "()Z"⟩, 5) := ⟨⟨by decide +kernel, by decide +kernel⟩, List.mem_of_getElem? (i := 253) (by decide +kernel), List.mem_of_getElem? (i := 908) (by decide +kernel), List.mem_of_getElem? (i := 909) (by decide +kernel)⟩
theorem lw_p39 : lw_okq (⟨"RunnerNet$Guards", "isSafe", "(I)Z"⟩, 5) := ⟨⟨by decide +kernel, by decide +kernel⟩, List.mem_of_getElem? (i := 253) (by decide +kernel), List.mem_of_getElem? (i := 912) (by decide +kernel), List.mem_of_getElem? (i := 913) (by decide +kernel)⟩
theorem lw_p40 : lw_okq (⟨"RunnerNet$Guards", "answersAll", "(I)Z"⟩, 5) := ⟨⟨by decide +kernel, by decide +kernel⟩, List.mem_of_getElem? (i := 253) (by decide +kernel), List.mem_of_getElem? (i := 916) (by decide +kernel), List.mem_of_getElem? (i := 917) (by decide +kernel)⟩
theorem lw_p41 : lw_okq (⟨"RunnerNet$Guards", "answersIn", "(III)J"⟩, 5) := ⟨⟨by decide +kernel, by decide +kernel⟩, List.mem_of_getElem? (i := 253) (by decide +kernel), List.mem_of_getElem? (i := 920) (by decide +kernel), List.mem_of_getElem? (i := 921) (by decide +kernel)⟩
theorem lw_p42 : lw_okq (⟨"RunnerNetModel", "isRead", "()Z"⟩, 41) := ⟨⟨by decide +kernel, by decide +kernel⟩, List.mem_of_getElem? (i := 961) (by decide +kernel), List.mem_of_getElem? (i := 1110) (by decide +kernel), List.mem_of_getElem? (i := 1111) (by decide +kernel)⟩
theorem lw_p43 : lw_okq (⟨"RunnerNetModel", "isLine", "(I)Z"⟩, 41) := ⟨⟨by decide +kernel, by decide +kernel⟩, List.mem_of_getElem? (i := 961) (by decide +kernel), List.mem_of_getElem? (i := 1114) (by decide +kernel), List.mem_of_getElem? (i := 1115) (by decide +kernel)⟩
theorem lw_p44 : lw_okq (⟨"RunnerNetModel", "nextToken", "()V"⟩, 41) := ⟨⟨by decide +kernel, by decide +kernel⟩, List.mem_of_getElem? (i := 961) (by decide +kernel), List.mem_of_getElem? (i := 1118) (by decide +kernel), List.mem_of_getElem? (i := 1119) (by decide +kernel)⟩
theorem lw_p45 : lw_okq (⟨"RunnerNetModel", "fails", "()Z"⟩, 41) := ⟨⟨by decide +kernel, by decide +kernel⟩, List.mem_of_getElem? (i := 961) (by decide +kernel), List.mem_of_getElem? (i := 1131) (by decide +kernel), List.mem_of_getElem? (i := 1132) (by decide +kernel)⟩
theorem lw_p46 : lw_okq (⟨"RunnerNetModel", "isNumber", "(III)Z"⟩, 41) := ⟨⟨by decide +kernel, by decide +kernel⟩, List.mem_of_getElem? (i := 961) (by decide +kernel), List.mem_of_getElem? (i := 1135) (by decide +kernel), List.mem_of_getElem? (i := 1136) (by decide +kernel)⟩
theorem lw_p47 : lw_okq (⟨"RunnerNetModel", "forget", "()V"⟩, 41) := ⟨⟨by decide +kernel, by decide +kernel⟩, List.mem_of_getElem? (i := 961) (by decide +kernel), List.mem_of_getElem? (i := 1143) (by decide +kernel), List.mem_of_getElem? (i := 1144) (by decide +kernel)⟩
def lw_privs_3 : List (MethodName × Nat) := [(⟨"RunnerNet$Covers", "touchesAll", "(I)Z"⟩, 1), (⟨"RunnerNet", "isWatch", "(II)Z"⟩, 10), (⟨"RunnerNet$Guards", "solve", "()V"⟩, 5), (⟨"RunnerNet$Guards", "moveAlone", "()V"⟩, 5), (⟨"RunnerNet$Guards", "moveTogether", "()V"⟩, 5), (⟨"RunnerNet$Guards", "addPlace", "(III)V"⟩, 5), (⟨"RunnerNet$Guards", "dropUnsafe", "()Z"⟩, 5), (⟨"RunnerNet$Guards", "isSafe", "(I)Z"⟩, 5), (⟨"RunnerNet$Guards", "answersAll", "(I)Z"⟩, 5), (⟨"RunnerNet$Guards", "answersIn", "(III)J"⟩, 5), (⟨"RunnerNetModel", "isRead", "()Z"⟩, 41), (⟨"RunnerNetModel", "isLine", "(I)Z"⟩, 41), (⟨"RunnerNetModel", "nextToken", "()V"⟩, 41), (⟨"RunnerNetModel", "fails", "()Z"⟩, 41), (⟨"RunnerNetModel", "isNumber", "(III)Z"⟩, 41), (⟨"RunnerNetModel", "forget", "()V"⟩, 41)]
theorem lw_r3 : ∀ q ∈ lw_privs_3, lw_okq q := List.forall_mem_cons.mpr ⟨lw_p32, List.forall_mem_cons.mpr ⟨lw_p33, List.forall_mem_cons.mpr ⟨lw_p34, List.forall_mem_cons.mpr ⟨lw_p35, List.forall_mem_cons.mpr ⟨lw_p36, List.forall_mem_cons.mpr ⟨lw_p37, List.forall_mem_cons.mpr ⟨lw_p38, List.forall_mem_cons.mpr ⟨lw_p39, List.forall_mem_cons.mpr ⟨lw_p40, List.forall_mem_cons.mpr ⟨lw_p41, List.forall_mem_cons.mpr ⟨lw_p42, List.forall_mem_cons.mpr ⟨lw_p43, List.forall_mem_cons.mpr ⟨lw_p44, List.forall_mem_cons.mpr ⟨lw_p45, List.forall_mem_cons.mpr ⟨lw_p46, List.forall_mem_cons.mpr ⟨lw_p47, fun _ h => absurd h List.not_mem_nil⟩⟩⟩⟩⟩⟩⟩⟩⟩⟩⟩⟩⟩⟩⟩⟩
theorem lw_p48 : lw_okq (⟨"RunnerNetModel", "isPlace", "(I)Z"⟩, 41) := ⟨⟨by decide +kernel, by decide +kernel⟩, List.mem_of_getElem? (i := 961) (by decide +kernel), List.mem_of_getElem? (i := 1151) (by decide +kernel), List.mem_of_getElem? (i := 1152) (by decide +kernel)⟩
theorem lw_p49 : lw_okq (⟨"RunnerNetModel", "stepsOf", "(I)I"⟩, 41) := ⟨⟨by decide +kernel, by decide +kernel⟩, List.mem_of_getElem? (i := 961) (by decide +kernel), List.mem_of_getElem? (i := 1159) (by decide +kernel), List.mem_of_getElem? (i := 1160) (by decide +kernel)⟩
theorem lw_p50 : lw_okq (⟨"RunnerNetModel", "stepped", "(I)I"⟩, 41) := ⟨⟨by decide +kernel, by decide +kernel⟩, List.mem_of_getElem? (i := 961) (by decide +kernel), List.mem_of_getElem? (i := 1167) (by decide +kernel), List.mem_of_getElem? (i := 1168) (by decide +kernel)⟩
theorem lw_p51 : lw_okq (⟨"RunnerNetModel", "told", "(II)I"⟩, 41) := ⟨⟨by decide +kernel, by decide +kernel⟩, List.mem_of_getElem? (i := 961) (by decide +kernel), List.mem_of_getElem? (i := 1178) (by decide +kernel), List.mem_of_getElem? (i := 1179) (by decide +kernel)⟩
theorem lw_p52 : lw_okq (⟨"RunnerNetModel", "settled", "(I)I"⟩, 41) := ⟨⟨by decide +kernel, by decide +kernel⟩, List.mem_of_getElem? (i := 961) (by decide +kernel), List.mem_of_getElem? (i := 1182) (by decide +kernel), List.mem_of_getElem? (i := 1183) (by decide +kernel)⟩
theorem lw_p53 : lw_okq (⟨"RunnerNetModel", "reckon", "(II)V"⟩, 41) := ⟨⟨by decide +kernel, by decide +kernel⟩, List.mem_of_getElem? (i := 961) (by decide +kernel), List.mem_of_getElem? (i := 1186) (by decide +kernel), List.mem_of_getElem? (i := 1187) (by decide +kernel)⟩
theorem lw_p54 : lw_okq (⟨"RunnerNetModel", "findFlights", "(II)V"⟩, 41) := ⟨⟨by decide +kernel, by decide +kernel⟩, List.mem_of_getElem? (i := 961) (by decide +kernel), List.mem_of_getElem? (i := 1190) (by decide +kernel), List.mem_of_getElem? (i := 1191) (by decide +kernel)⟩
theorem lw_p55 : lw_okq (⟨"RunnerNetModel", "isSetting", "(II)Z"⟩, 41) := ⟨⟨by decide +kernel, by decide +kernel⟩, List.mem_of_getElem? (i := 961) (by decide +kernel), List.mem_of_getElem? (i := 1197) (by decide +kernel), List.mem_of_getElem? (i := 1198) (by decide +kernel)⟩
theorem lw_p56 : lw_okq (⟨"RunnerNetModel", "spell", "(II)V"⟩, 41) := ⟨⟨by decide +kernel, by decide +kernel⟩, List.mem_of_getElem? (i := 961) (by decide +kernel), List.mem_of_getElem? (i := 1201) (by decide +kernel), List.mem_of_getElem? (i := 1202) (by decide +kernel)⟩
theorem lw_p57 : lw_okq (⟨"RunnerNetModel", "placesOf", "(II)I"⟩, 41) := ⟨⟨by decide +kernel, by decide +kernel⟩, List.mem_of_getElem? (i := 961) (by decide +kernel), List.mem_of_getElem? (i := 1205) (by decide +kernel), List.mem_of_getElem? (i := 1206) (by decide +kernel)⟩
theorem lw_p58 : lw_okq (⟨"RunnerNetModel", "flight", "(III)I"⟩, 41) := ⟨⟨by decide +kernel, by decide +kernel⟩, List.mem_of_getElem? (i := 961) (by decide +kernel), List.mem_of_getElem? (i := 1209) (by decide +kernel), List.mem_of_getElem? (i := 1210) (by decide +kernel)⟩
theorem lw_p59 : lw_okq (⟨"RunnerNetModel", "findGood", "(III)V"⟩, 41) := ⟨⟨by decide +kernel, by decide +kernel⟩, List.mem_of_getElem? (i := 961) (by decide +kernel), List.mem_of_getElem? (i := 1216) (by decide +kernel), List.mem_of_getElem? (i := 1217) (by decide +kernel)⟩
theorem lw_p60 : lw_okq (⟨"RunnerNetModel", "behind", "(IIII)I"⟩, 41) := ⟨⟨by decide +kernel, by decide +kernel⟩, List.mem_of_getElem? (i := 961) (by decide +kernel), List.mem_of_getElem? (i := 1220) (by decide +kernel), List.mem_of_getElem? (i := 1221) (by decide +kernel)⟩
theorem lw_p61 : lw_okq (⟨"RunnerNetModel", "leavable", "(II)I"⟩, 41) := ⟨⟨by decide +kernel, by decide +kernel⟩, List.mem_of_getElem? (i := 961) (by decide +kernel), List.mem_of_getElem? (i := 1224) (by decide +kernel), List.mem_of_getElem? (i := 1225) (by decide +kernel)⟩
theorem lw_p62 : lw_okq (⟨"RunnerNetModel", "moved", "(III)I"⟩, 41) := ⟨⟨by decide +kernel, by decide +kernel⟩, List.mem_of_getElem? (i := 961) (by decide +kernel), List.mem_of_getElem? (i := 1228) (by decide +kernel), List.mem_of_getElem? (i := 1229) (by decide +kernel)⟩
theorem lw_p63 : lw_okq (⟨"RunnerNetModel", "worthOf", "(III)I"⟩, 41) := ⟨⟨by decide +kernel, by decide +kernel⟩, List.mem_of_getElem? (i := 961) (by decide +kernel), List.mem_of_getElem? (i := 1236) (by decide +kernel), List.mem_of_getElem? (i := 1237) (by decide +kernel)⟩
def lw_privs_4 : List (MethodName × Nat) := [(⟨"RunnerNetModel", "isPlace", "(I)Z"⟩, 41), (⟨"RunnerNetModel", "stepsOf", "(I)I"⟩, 41), (⟨"RunnerNetModel", "stepped", "(I)I"⟩, 41), (⟨"RunnerNetModel", "told", "(II)I"⟩, 41), (⟨"RunnerNetModel", "settled", "(I)I"⟩, 41), (⟨"RunnerNetModel", "reckon", "(II)V"⟩, 41), (⟨"RunnerNetModel", "findFlights", "(II)V"⟩, 41), (⟨"RunnerNetModel", "isSetting", "(II)Z"⟩, 41), (⟨"RunnerNetModel", "spell", "(II)V"⟩, 41), (⟨"RunnerNetModel", "placesOf", "(II)I"⟩, 41), (⟨"RunnerNetModel", "flight", "(III)I"⟩, 41), (⟨"RunnerNetModel", "findGood", "(III)V"⟩, 41), (⟨"RunnerNetModel", "behind", "(IIII)I"⟩, 41), (⟨"RunnerNetModel", "leavable", "(II)I"⟩, 41), (⟨"RunnerNetModel", "moved", "(III)I"⟩, 41), (⟨"RunnerNetModel", "worthOf", "(III)I"⟩, 41)]
theorem lw_r4 : ∀ q ∈ lw_privs_4, lw_okq q := List.forall_mem_cons.mpr ⟨lw_p48, List.forall_mem_cons.mpr ⟨lw_p49, List.forall_mem_cons.mpr ⟨lw_p50, List.forall_mem_cons.mpr ⟨lw_p51, List.forall_mem_cons.mpr ⟨lw_p52, List.forall_mem_cons.mpr ⟨lw_p53, List.forall_mem_cons.mpr ⟨lw_p54, List.forall_mem_cons.mpr ⟨lw_p55, List.forall_mem_cons.mpr ⟨lw_p56, List.forall_mem_cons.mpr ⟨lw_p57, List.forall_mem_cons.mpr ⟨lw_p58, List.forall_mem_cons.mpr ⟨lw_p59, List.forall_mem_cons.mpr ⟨lw_p60, List.forall_mem_cons.mpr ⟨lw_p61, List.forall_mem_cons.mpr ⟨lw_p62, List.forall_mem_cons.mpr ⟨lw_p63, fun _ h => absurd h List.not_mem_nil⟩⟩⟩⟩⟩⟩⟩⟩⟩⟩⟩⟩⟩⟩⟩⟩
theorem lw_p64 : lw_okq (⟨"RunnerNetModel", "bestOf", "(II)I"⟩, 41) := ⟨⟨by decide +kernel, by decide +kernel⟩, List.mem_of_getElem? (i := 961) (by decide +kernel), List.mem_of_getElem? (i := 1244) (by decide +kernel), List.mem_of_getElem? (i := 1245) (by decide +kernel)⟩
theorem lw_p65 : lw_okq (⟨"RunnerNetModel", "huntOf", "(IIII)I"⟩, 41) := ⟨⟨by decide +kernel, by decide +kernel⟩, List.mem_of_getElem? (i := 961) (by decide +kernel), List.mem_of_getElem? (i := 1260) (by decide +kernel), List.mem_of_getElem? (i := 1261) (by decide +kernel)⟩
theorem lw_p66 : lw_okq (⟨"RunnerNetModel", "fleeOf", "(IIII)I"⟩, 41) := ⟨⟨by decide +kernel, by decide +kernel⟩, List.mem_of_getElem? (i := 961) (by decide +kernel), List.mem_of_getElem? (i := 1268) (by decide +kernel), List.mem_of_getElem? (i := 1269) (by decide +kernel)⟩
theorem lw_p67 : lw_okq (⟨"RunnerNetModel", "isCaught", "()Z"⟩, 41) := ⟨⟨by decide +kernel, by decide +kernel⟩, List.mem_of_getElem? (i := 961) (by decide +kernel), List.mem_of_getElem? (i := 1280) (by decide +kernel), List.mem_of_getElem? (i := 1281) (by decide +kernel)⟩
theorem lw_p68 : lw_okq (⟨"RunnerNetModel", "isSet", "(I)Z"⟩, 41) := ⟨⟨by decide +kernel, by decide +kernel⟩, List.mem_of_getElem? (i := 961) (by decide +kernel), List.mem_of_getElem? (i := 1292) (by decide +kernel), List.mem_of_getElem? (i := 1293) (by decide +kernel)⟩
theorem lw_p69 : lw_okq (⟨"RunnerNetModel", "spreadOf", "(II)I"⟩, 41) := ⟨⟨by decide +kernel, by decide +kernel⟩, List.mem_of_getElem? (i := 961) (by decide +kernel), List.mem_of_getElem? (i := 1296) (by decide +kernel), List.mem_of_getElem? (i := 1297) (by decide +kernel)⟩
theorem lw_p70 : lw_okq (⟨"RunnerNetModel", "findClear", "(II)V"⟩, 41) := ⟨⟨by decide +kernel, by decide +kernel⟩, List.mem_of_getElem? (i := 961) (by decide +kernel), List.mem_of_getElem? (i := 1304) (by decide +kernel), List.mem_of_getElem? (i := 1305) (by decide +kernel)⟩
theorem lw_p71 : lw_okq (⟨"RunnerNetModel", "canStep", "(III)Z"⟩, 41) := ⟨⟨by decide +kernel, by decide +kernel⟩, List.mem_of_getElem? (i := 961) (by decide +kernel), List.mem_of_getElem? (i := 1308) (by decide +kernel), List.mem_of_getElem? (i := 1309) (by decide +kernel)⟩
theorem lw_p72 : lw_okq (⟨"RunnerNetModel", "lengthFound", "()I"⟩, 41) := ⟨⟨by decide +kernel, by decide +kernel⟩, List.mem_of_getElem? (i := 961) (by decide +kernel), List.mem_of_getElem? (i := 1312) (by decide +kernel), List.mem_of_getElem? (i := 1313) (by decide +kernel)⟩
theorem lw_p73 : lw_okq (⟨"RunnerNetModel", "findRest", "(Z)V"⟩, 41) := ⟨⟨by decide +kernel, by decide +kernel⟩, List.mem_of_getElem? (i := 961) (by decide +kernel), List.mem_of_getElem? (i := 1324) (by decide +kernel), List.mem_of_getElem? (i := 1325) (by decide +kernel)⟩
theorem lw_p74 : lw_okq (⟨"RunnerNetModel", "joinBoth", "()V"⟩, 41) := ⟨⟨by decide +kernel, by decide +kernel⟩, List.mem_of_getElem? (i := 961) (by decide +kernel), List.mem_of_getElem? (i := 1328) (by decide +kernel), List.mem_of_getElem? (i := 1329) (by decide +kernel)⟩
theorem lw_p75 : lw_okq (⟨"RunnerNetModel", "costOf", "(ZII)I"⟩, 41) := ⟨⟨by decide +kernel, by decide +kernel⟩, List.mem_of_getElem? (i := 961) (by decide +kernel), List.mem_of_getElem? (i := 1332) (by decide +kernel), List.mem_of_getElem? (i := 1333) (by decide +kernel)⟩
theorem lw_p76 : lw_okq (⟨"RunnerNetModel", "greater", "(II)I"⟩, 41) := ⟨⟨by decide +kernel, by decide +kernel⟩, List.mem_of_getElem? (i := 961) (by decide +kernel), List.mem_of_getElem? (i := 1339) (by decide +kernel), List.mem_of_getElem? (i := 1340) (by decide +kernel)⟩
theorem lw_p77 : lw_okq (⟨"RunnerNetModel", "lesser", "(II)I"⟩, 41) := ⟨⟨by decide +kernel, by decide +kernel⟩, List.mem_of_getElem? (i := 961) (by decide +kernel), List.mem_of_getElem? (i := 1343) (by decide +kernel), List.mem_of_getElem? (i := 1344) (by decide +kernel)⟩
theorem lw_p78 : lw_okq (⟨"RunnerNetModel", "coveredIn", "(I)I"⟩, 41) := ⟨⟨by decide +kernel, by decide +kernel⟩, List.mem_of_getElem? (i := 961) (by decide +kernel), List.mem_of_getElem? (i := 1351) (by decide +kernel), List.mem_of_getElem? (i := 1352) (by decide +kernel)⟩
theorem lw_p79 : lw_okq (⟨"RunnerNetModel", "stepsBoth", "(I)I"⟩, 41) := ⟨⟨by decide +kernel, by decide +kernel⟩, List.mem_of_getElem? (i := 961) (by decide +kernel), List.mem_of_getElem? (i := 1355) (by decide +kernel), List.mem_of_getElem? (i := 1356) (by decide +kernel)⟩
def lw_privs_5 : List (MethodName × Nat) := [(⟨"RunnerNetModel", "bestOf", "(II)I"⟩, 41), (⟨"RunnerNetModel", "huntOf", "(IIII)I"⟩, 41), (⟨"RunnerNetModel", "fleeOf", "(IIII)I"⟩, 41), (⟨"RunnerNetModel", "isCaught", "()Z"⟩, 41), (⟨"RunnerNetModel", "isSet", "(I)Z"⟩, 41), (⟨"RunnerNetModel", "spreadOf", "(II)I"⟩, 41), (⟨"RunnerNetModel", "findClear", "(II)V"⟩, 41), (⟨"RunnerNetModel", "canStep", "(III)Z"⟩, 41), (⟨"RunnerNetModel", "lengthFound", "()I"⟩, 41), (⟨"RunnerNetModel", "findRest", "(Z)V"⟩, 41), (⟨"RunnerNetModel", "joinBoth", "()V"⟩, 41), (⟨"RunnerNetModel", "costOf", "(ZII)I"⟩, 41), (⟨"RunnerNetModel", "greater", "(II)I"⟩, 41), (⟨"RunnerNetModel", "lesser", "(II)I"⟩, 41), (⟨"RunnerNetModel", "coveredIn", "(I)I"⟩, 41), (⟨"RunnerNetModel", "stepsBoth", "(I)I"⟩, 41)]
theorem lw_r5 : ∀ q ∈ lw_privs_5, lw_okq q := List.forall_mem_cons.mpr ⟨lw_p64, List.forall_mem_cons.mpr ⟨lw_p65, List.forall_mem_cons.mpr ⟨lw_p66, List.forall_mem_cons.mpr ⟨lw_p67, List.forall_mem_cons.mpr ⟨lw_p68, List.forall_mem_cons.mpr ⟨lw_p69, List.forall_mem_cons.mpr ⟨lw_p70, List.forall_mem_cons.mpr ⟨lw_p71, List.forall_mem_cons.mpr ⟨lw_p72, List.forall_mem_cons.mpr ⟨lw_p73, List.forall_mem_cons.mpr ⟨lw_p74, List.forall_mem_cons.mpr ⟨lw_p75, List.forall_mem_cons.mpr ⟨lw_p76, List.forall_mem_cons.mpr ⟨lw_p77, List.forall_mem_cons.mpr ⟨lw_p78, List.forall_mem_cons.mpr ⟨lw_p79, fun _ h => absurd h List.not_mem_nil⟩⟩⟩⟩⟩⟩⟩⟩⟩⟩⟩⟩⟩⟩⟩⟩
theorem lw_p80 : lw_okq (⟨"RunnerNetModel", "doesTouch", "(I)Z"⟩, 41) := ⟨⟨by decide +kernel, by decide +kernel⟩, List.mem_of_getElem? (i := 961) (by decide +kernel), List.mem_of_getElem? (i := 1363) (by decide +kernel), List.mem_of_getElem? (i := 1364) (by decide +kernel)⟩
theorem lw_p81 : lw_okq (⟨"RunnerNetModel", "guard", "()V"⟩, 41) := ⟨⟨by decide +kernel, by decide +kernel⟩, List.mem_of_getElem? (i := 961) (by decide +kernel), List.mem_of_getElem? (i := 1371) (by decide +kernel), List.mem_of_getElem? (i := 1372) (by decide +kernel)⟩
theorem lw_p82 : lw_okq (⟨"RunnerNetModel", "findGoes", "()V"⟩, 41) := ⟨⟨by decide +kernel, by decide +kernel⟩, List.mem_of_getElem? (i := 961) (by decide +kernel), List.mem_of_getElem? (i := 1375) (by decide +kernel), List.mem_of_getElem? (i := 1376) (by decide +kernel)⟩
theorem lw_p83 : lw_okq (⟨"RunnerNetModel", "goOneMore", "(I)V"⟩, 41) := ⟨⟨by decide +kernel, by decide +kernel⟩, List.mem_of_getElem? (i := 961) (by decide +kernel), List.mem_of_getElem? (i := 1379) (by decide +kernel), List.mem_of_getElem? (i := 1380) (by decide +kernel)⟩
theorem lw_p84 : lw_okq (⟨"RunnerNetModel", "canAnswer", "(II)Z"⟩, 41) := ⟨⟨by decide +kernel, by decide +kernel⟩, List.mem_of_getElem? (i := 961) (by decide +kernel), List.mem_of_getElem? (i := 1383) (by decide +kernel), List.mem_of_getElem? (i := 1384) (by decide +kernel)⟩
theorem lw_p85 : lw_okq (⟨"RunnerNetModel", "answerOf", "(III)I"⟩, 41) := ⟨⟨by decide +kernel, by decide +kernel⟩, List.mem_of_getElem? (i := 961) (by decide +kernel), List.mem_of_getElem? (i := 1387) (by decide +kernel), List.mem_of_getElem? (i := 1388) (by decide +kernel)⟩
theorem lw_p86 : lw_okq (⟨"RunnerNetModel", "stepsFrom", "(I)I"⟩, 41) := ⟨⟨by decide +kernel, by decide +kernel⟩, List.mem_of_getElem? (i := 961) (by decide +kernel), List.mem_of_getElem? (i := 1391) (by decide +kernel), List.mem_of_getElem? (i := 1392) (by decide +kernel)⟩
def lw_privs_6 : List (MethodName × Nat) := [(⟨"RunnerNetModel", "doesTouch", "(I)Z"⟩, 41), (⟨"RunnerNetModel", "guard", "()V"⟩, 41), (⟨"RunnerNetModel", "findGoes", "()V"⟩, 41), (⟨"RunnerNetModel", "goOneMore", "(I)V"⟩, 41), (⟨"RunnerNetModel", "canAnswer", "(II)Z"⟩, 41), (⟨"RunnerNetModel", "answerOf", "(III)I"⟩, 41), (⟨"RunnerNetModel", "stepsFrom", "(I)I"⟩, 41)]
theorem lw_r6 : ∀ q ∈ lw_privs_6, lw_okq q := List.forall_mem_cons.mpr ⟨lw_p80, List.forall_mem_cons.mpr ⟨lw_p81, List.forall_mem_cons.mpr ⟨lw_p82, List.forall_mem_cons.mpr ⟨lw_p83, List.forall_mem_cons.mpr ⟨lw_p84, List.forall_mem_cons.mpr ⟨lw_p85, List.forall_mem_cons.mpr ⟨lw_p86, fun _ h => absurd h List.not_mem_nil⟩⟩⟩⟩⟩⟩⟩
def lw_privs : List (MethodName × Nat) := lw_privs_1 ++ (lw_privs_2 ++ (lw_privs_3 ++ (lw_privs_4 ++ (lw_privs_5 ++ (lw_privs_6)))))
def lw_tbl : List Cond := k2_sels lw_privs ++ tables_1
theorem lw_privs_ok : ∀ q ∈ lw_privs, lw_okq q := by
  show ∀ q ∈ lw_privs_1 ++ (lw_privs_2 ++ (lw_privs_3 ++ (lw_privs_4 ++ (lw_privs_5 ++ (lw_privs_6))))), lw_okq q
  exact List.forall_mem_append.mpr ⟨lw_r1, List.forall_mem_append.mpr ⟨lw_r2, List.forall_mem_append.mpr ⟨lw_r3, List.forall_mem_append.mpr ⟨lw_r4, List.forall_mem_append.mpr ⟨lw_r5, lw_r6⟩⟩⟩⟩⟩
end
section
def RX0 : String := "RunnerNet$Chase"
def TX0 : u_T := fun k => match k with
  | 0 => ("RunnerNet$Chase", "net", "LRunnerNet$Net;", true)
  | 1 => ("RunnerNet$Chase", "settings", "LRunnerNet$Settings;", true)
  | 2 => ("RunnerNet$Chase", "speed", "I", true)
  | 3 => ("RunnerNet$Chase", "left", "[I", true)
  | 4 => ("RunnerNet$Chase", "sure", "[I", true)
  | 5 => ("RunnerNet$Chase", "trapped", "[I", true)
  | 6 => ("RunnerNet$Chase", "widened", "[I", true)
  | _ => ("RunnerNet$Chase", "solvedFor", "I", false)
def tyX0 : Nat → FieldType := fun k => match k with
  | 0 => .object "RunnerNet$Net"
  | 1 => .object "RunnerNet$Settings"
  | 2 => .int
  | 3 => .array .int
  | 4 => .array .int
  | 5 => .array .int
  | 6 => .array .int
  | _ => .int
theorem nmX0 : ∀ a, a < 8 → ∀ b, b < 8 → a ≠ b → (TX0 a).2.1 ≠ (TX0 b).2.1 := by decide +kernel
theorem tyX0_ok : ∀ k, k < 8 → parseFieldDescriptor (TX0 k).2.2.1 = some (tyX0 k) := by decide +kernel
def RX1 : String := "RunnerNet$Covers"
def TX1 : u_T := fun k => match k with
  | _ => ("RunnerNet$Covers", "net", "LRunnerNet$Net;", true)
def tyX1 : Nat → FieldType := fun k => match k with
  | _ => .object "RunnerNet$Net"
theorem nmX1 : ∀ a, a < 1 → ∀ b, b < 1 → a ≠ b → (TX1 a).2.1 ≠ (TX1 b).2.1 := by decide +kernel
theorem tyX1_ok : ∀ k, k < 1 → parseFieldDescriptor (TX1 k).2.2.1 = some (tyX1 k) := by decide +kernel
def RX2 : String := "RunnerNet$Guards"
def TX2 : u_T := fun k => match k with
  | 0 => ("RunnerNet$Guards", "net", "LRunnerNet$Net;", true)
  | 1 => ("RunnerNet$Guards", "mode", "I", true)
  | 2 => ("RunnerNet$Guards", "moves", "[J", true)
  | 3 => ("RunnerNet$Guards", "safe", "[J", true)
  | _ => ("RunnerNet$Guards", "solvedFor", "I", false)
def tyX2 : Nat → FieldType := fun k => match k with
  | 0 => .object "RunnerNet$Net"
  | 1 => .int
  | 2 => .array .long
  | 3 => .array .long
  | _ => .int
theorem nmX2 : ∀ a, a < 5 → ∀ b, b < 5 → a ≠ b → (TX2 a).2.1 ≠ (TX2 b).2.1 := by decide +kernel
theorem tyX2_ok : ∀ k, k < 5 → parseFieldDescriptor (TX2 k).2.2.1 = some (tyX2 k) := by decide +kernel
def RX3 : String := "RunnerNet$Net"
def TX3 : u_T := fun k => match k with
  | 0 => ("RunnerNet$Net", "places", "I", false)
  | 1 => ("RunnerNet$Net", "changes", "I", false)
  | 2 => ("RunnerNet$Net", "out", "[I", true)
  | 3 => ("RunnerNet$Net", "in", "[I", true)
  | 4 => ("RunnerNet$Net", "ahead", "[I", true)
  | _ => ("RunnerNet$Net", "behind", "[I", true)
def tyX3 : Nat → FieldType := fun k => match k with
  | 0 => .int
  | 1 => .int
  | 2 => .array .int
  | 3 => .array .int
  | 4 => .array .int
  | _ => .array .int
theorem nmX3 : ∀ a, a < 6 → ∀ b, b < 6 → a ≠ b → (TX3 a).2.1 ≠ (TX3 b).2.1 := by decide +kernel
theorem tyX3_ok : ∀ k, k < 6 → parseFieldDescriptor (TX3 k).2.2.1 = some (tyX3 k) := by decide +kernel
def RX4 : String := "RunnerNet$Orders"
def TX4 : u_T := fun k => match k with
  | 0 => ("RunnerNet$Orders", "net", "LRunnerNet$Net;", true)
  | 1 => ("RunnerNet$Orders", "seen", "Z", true)
  | 2 => ("RunnerNet$Orders", "rest", "[I", true)
  | 3 => ("RunnerNet$Orders", "order", "[I", true)
  | _ => ("RunnerNet$Orders", "solvedFor", "I", false)
def tyX4 : Nat → FieldType := fun k => match k with
  | 0 => .object "RunnerNet$Net"
  | 1 => .boolean
  | 2 => .array .int
  | 3 => .array .int
  | _ => .int
theorem nmX4 : ∀ a, a < 5 → ∀ b, b < 5 → a ≠ b → (TX4 a).2.1 ≠ (TX4 b).2.1 := by decide +kernel
theorem tyX4_ok : ∀ k, k < 5 → parseFieldDescriptor (TX4 k).2.2.1 = some (tyX4 k) := by decide +kernel
def RX5 : String := "RunnerNet$Play"
def TX5 : u_T := fun k => match k with
  | 0 => ("RunnerNet$Play", "on", "Z", false)
  | 1 => ("RunnerNet$Play", "hunters", "I", false)
  | 2 => ("RunnerNet$Play", "speed", "I", false)
  | 3 => ("RunnerNet$Play", "setting", "I", false)
  | 4 => ("RunnerNet$Play", "place", "I", false)
  | _ => ("RunnerNet$Play", "gone", "I", false)
def tyX5 : Nat → FieldType := fun k => match k with
  | 0 => .boolean
  | 1 => .int
  | 2 => .int
  | 3 => .int
  | 4 => .int
  | _ => .int
theorem nmX5 : ∀ a, a < 6 → ∀ b, b < 6 → a ≠ b → (TX5 a).2.1 ≠ (TX5 b).2.1 := by decide +kernel
theorem tyX5_ok : ∀ k, k < 6 → parseFieldDescriptor (TX5 k).2.2.1 = some (tyX5 k) := by decide +kernel
def RX6 : String := "RunnerNet$Settings"
def TX6 : u_T := fun k => match k with
  | 0 => ("RunnerNet$Settings", "net", "LRunnerNet$Net;", true)
  | 1 => ("RunnerNet$Settings", "hunters", "I", true)
  | 2 => ("RunnerNet$Settings", "size", "I", true)
  | _ => ("RunnerNet$Settings", "placesOf", "[I", true)
def tyX6 : Nat → FieldType := fun k => match k with
  | 0 => .object "RunnerNet$Net"
  | 1 => .int
  | 2 => .int
  | _ => .array .int
theorem nmX6 : ∀ a, a < 4 → ∀ b, b < 4 → a ≠ b → (TX6 a).2.1 ≠ (TX6 b).2.1 := by decide +kernel
theorem tyX6_ok : ∀ k, k < 4 → parseFieldDescriptor (TX6 k).2.2.1 = some (tyX6 k) := by decide +kernel
def RX7 : String := "RunnerNet$Text"
def TX7 : u_T := fun k => match k with
  | 0 => ("RunnerNet$Text", "bytes", "[I", true)
  | 1 => ("RunnerNet$Text", "length", "I", false)
  | 2 => ("RunnerNet$Text", "tokenStart", "I", false)
  | 3 => ("RunnerNet$Text", "tokenEnd", "I", false)
  | 4 => ("RunnerNet$Text", "placesThen", "I", false)
  | 5 => ("RunnerNet$Text", "lines", "I", false)
  | 6 => ("RunnerNet$Text", "kinds", "[I", true)
  | 7 => ("RunnerNet$Text", "firsts", "[I", true)
  | _ => ("RunnerNet$Text", "seconds", "[I", true)
def tyX7 : Nat → FieldType := fun k => match k with
  | 0 => .array .int
  | 1 => .int
  | 2 => .int
  | 3 => .int
  | 4 => .int
  | 5 => .int
  | 6 => .array .int
  | 7 => .array .int
  | _ => .array .int
theorem nmX7 : ∀ a, a < 9 → ∀ b, b < 9 → a ≠ b → (TX7 a).2.1 ≠ (TX7 b).2.1 := by decide +kernel
theorem tyX7_ok : ∀ k, k < 9 → parseFieldDescriptor (TX7 k).2.2.1 = some (tyX7 k) := by decide +kernel
def RX8 : String := "RunnerNet$Unseen"
def TX8 : u_T := fun k => match k with
  | 0 => ("RunnerNet$Unseen", "net", "LRunnerNet$Net;", true)
  | 1 => ("RunnerNet$Unseen", "stands", "[I", true)
  | 2 => ("RunnerNet$Unseen", "parents", "[I", true)
  | 3 => ("RunnerNet$Unseen", "met", "[I", true)
  | 4 => ("RunnerNet$Unseen", "settings", "LRunnerNet$Settings;", false)
  | 5 => ("RunnerNet$Unseen", "count", "I", false)
  | 6 => ("RunnerNet$Unseen", "end", "I", false)
  | 7 => ("RunnerNet$Unseen", "length", "I", false)
  | 8 => ("RunnerNet$Unseen", "solvedFor", "I", false)
  | _ => ("RunnerNet$Unseen", "solvedFirst", "I", false)
def tyX8 : Nat → FieldType := fun k => match k with
  | 0 => .object "RunnerNet$Net"
  | 1 => .array .int
  | 2 => .array .int
  | 3 => .array .int
  | 4 => .object "RunnerNet$Settings"
  | 5 => .int
  | 6 => .int
  | 7 => .int
  | 8 => .int
  | _ => .int
theorem nmX8 : ∀ a, a < 10 → ∀ b, b < 10 → a ≠ b → (TX8 a).2.1 ≠ (TX8 b).2.1 := by decide +kernel
theorem tyX8_ok : ∀ k, k < 10 → parseFieldDescriptor (TX8 k).2.2.1 = some (tyX8 k) := by decide +kernel
def RX9 : String := "RunnerNet"
def TX9 : u_T := fun k => match k with
  | 0 => ("RunnerNet", "net", "LRunnerNet$Net;", true)
  | 1 => ("RunnerNet", "text", "LRunnerNet$Text;", true)
  | 2 => ("RunnerNet", "settings", "[LRunnerNet$Settings;", true)
  | 3 => ("RunnerNet", "chases", "[LRunnerNet$Chase;", true)
  | 4 => ("RunnerNet", "game", "LRunnerNet$Play;", true)
  | 5 => ("RunnerNet", "unseen", "LRunnerNet$Unseen;", true)
  | 6 => ("RunnerNet", "ordersUnseen", "LRunnerNet$Orders;", true)
  | 7 => ("RunnerNet", "ordersSeen", "LRunnerNet$Orders;", true)
  | 8 => ("RunnerNet", "covers", "LRunnerNet$Covers;", true)
  | _ => ("RunnerNet", "watches", "[LRunnerNet$Guards;", true)
def tyX9 : Nat → FieldType := fun k => match k with
  | 0 => .object "RunnerNet$Net"
  | 1 => .object "RunnerNet$Text"
  | 2 => .array (.object "RunnerNet$Settings")
  | 3 => .array (.object "RunnerNet$Chase")
  | 4 => .object "RunnerNet$Play"
  | 5 => .object "RunnerNet$Unseen"
  | 6 => .object "RunnerNet$Orders"
  | 7 => .object "RunnerNet$Orders"
  | 8 => .object "RunnerNet$Covers"
  | _ => .array (.object "RunnerNet$Guards")
theorem nmX9 : ∀ a, a < 10 → ∀ b, b < 10 → a ≠ b → (TX9 a).2.1 ≠ (TX9 b).2.1 := by decide +kernel
theorem tyX9_ok : ∀ k, k < 10 → parseFieldDescriptor (TX9 k).2.2.1 = some (tyX9 k) := by decide +kernel
def RX10 : String := "RunnerNetModel"
def TX10 : u_T := fun k => match k with
  | 0 => ("RunnerNetModel", "n", "I", false)
  | 1 => ("RunnerNetModel", "roads", "[I", true)
  | 2 => ("RunnerNetModel", "bytes", "I", false)
  | 3 => ("RunnerNetModel", "text", "[I", true)
  | 4 => ("RunnerNetModel", "position", "I", false)
  | 5 => ("RunnerNetModel", "tokenAt", "I", false)
  | 6 => ("RunnerNetModel", "token", "J", false)
  | 7 => ("RunnerNetModel", "digits", "I", false)
  | 8 => ("RunnerNetModel", "number", "I", false)
  | 9 => ("RunnerNetModel", "faultAt", "I", false)
  | 10 => ("RunnerNetModel", "below", "I", false)
  | 11 => ("RunnerNetModel", "readMany", "I", false)
  | 12 => ("RunnerNetModel", "read", "[I", true)
  | 13 => ("RunnerNetModel", "isReckoned", "[Z", true)
  | 14 => ("RunnerNetModel", "left", "[I", true)
  | 15 => ("RunnerNetModel", "flights", "[I", true)
  | 16 => ("RunnerNetModel", "good", "[I", true)
  | 17 => ("RunnerNetModel", "digit", "[I", true)
  | 18 => ("RunnerNetModel", "went", "[I", true)
  | 19 => ("RunnerNetModel", "playK", "I", false)
  | 20 => ("RunnerNetModel", "playS", "I", false)
  | 21 => ("RunnerNetModel", "playSetting", "I", false)
  | 22 => ("RunnerNetModel", "playPlace", "I", false)
  | 23 => ("RunnerNetModel", "playRounds", "I", false)
  | 24 => ("RunnerNetModel", "isPlay", "Z", false)
  | 25 => ("RunnerNetModel", "from", "[I", true)
  | 26 => ("RunnerNetModel", "queue", "[I", true)
  | 27 => ("RunnerNetModel", "found", "I", false)
  | 28 => ("RunnerNetModel", "isFreed", "[Z", true)
  | 29 => ("RunnerNetModel", "freeSetting", "[I", true)
  | 30 => ("RunnerNetModel", "freeSteps", "[I", true)
  | 31 => ("RunnerNetModel", "both", "[I", true)
  | 32 => ("RunnerNetModel", "rest", "[I", true)
  | 33 => ("RunnerNetModel", "cost", "[I", true)
  | 34 => ("RunnerNetModel", "taken", "[I", true)
  | 35 => ("RunnerNetModel", "takenMany", "I", false)
  | 36 => ("RunnerNetModel", "isGuarded", "Z", false)
  | 37 => ("RunnerNetModel", "goes", "[Z", true)
  | 38 => ("RunnerNetModel", "isSafe", "[Z", true)
  | 39 => ("RunnerNetModel", "some", "[Z", true)
  | _ => ("RunnerNetModel", "more", "[Z", true)
def tyX10 : Nat → FieldType := fun k => match k with
  | 0 => .int
  | 1 => .array .int
  | 2 => .int
  | 3 => .array .int
  | 4 => .int
  | 5 => .int
  | 6 => .long
  | 7 => .int
  | 8 => .int
  | 9 => .int
  | 10 => .int
  | 11 => .int
  | 12 => .array .int
  | 13 => .array .boolean
  | 14 => .array .int
  | 15 => .array .int
  | 16 => .array .int
  | 17 => .array .int
  | 18 => .array .int
  | 19 => .int
  | 20 => .int
  | 21 => .int
  | 22 => .int
  | 23 => .int
  | 24 => .boolean
  | 25 => .array .int
  | 26 => .array .int
  | 27 => .int
  | 28 => .array .boolean
  | 29 => .array .int
  | 30 => .array .int
  | 31 => .array .int
  | 32 => .array .int
  | 33 => .array .int
  | 34 => .array .int
  | 35 => .int
  | 36 => .boolean
  | 37 => .array .boolean
  | 38 => .array .boolean
  | 39 => .array .boolean
  | _ => .array .boolean
theorem nmX10 : ∀ a, a < 41 → ∀ b, b < 41 → a ≠ b → (TX10 a).2.1 ≠ (TX10 b).2.1 := by decide +kernel
theorem tyX10_ok : ∀ k, k < 41 → parseFieldDescriptor (TX10 k).2.2.1 = some (tyX10 k) := by decide +kernel
def RJ6 : String := "java/lang/Integer"
def RJ13 : String := "java/lang/Long"
def RJ0 : String := "java/lang/String"
def RJ1 : String := "java/lang/StringLatin1"
def RJ3 : String := "jdk/internal/util/Preconditions"
def RJ7 : String := "java/util/Arrays"
abbrev cX0_init : ByteArray := prog_2_method_1_code
def yX0_init : MethodName := ⟨RX0, "<init>", "(LRunnerNet$Net;LRunnerNet$Settings;I)V"⟩
abbrev cX0_solve : ByteArray := prog_2_method_2_code
def yX0_solve : MethodName := ⟨RX0, "solve", "()V"⟩
abbrev cX0_roundsFrom : ByteArray := prog_2_method_3_code
def yX0_roundsFrom : MethodName := ⟨RX0, "roundsFrom", "(II)I"⟩
abbrev cX0_mostFrom : ByteArray := prog_2_method_4_code
def yX0_mostFrom : MethodName := ⟨RX0, "mostFrom", "(I)I"⟩
abbrev cX0_bestSetting : ByteArray := prog_2_method_5_code
def yX0_bestSetting : MethodName := ⟨RX0, "bestSetting", "()I"⟩
abbrev cX0_countEndless : ByteArray := prog_2_method_6_code
def yX0_countEndless : MethodName := ⟨RX0, "countEndless", "()I"⟩
abbrev cX0_bestMove : ByteArray := prog_2_method_7_code
def yX0_bestMove : MethodName := ⟨RX0, "bestMove", "(II)I"⟩
abbrev cX0_bestFlight : ByteArray := prog_2_method_8_code
def yX0_bestFlight : MethodName := ⟨RX0, "bestFlight", "(II)I"⟩
abbrev cX0_flights : ByteArray := prog_2_method_9_code
def yX0_flights : MethodName := ⟨RX0, "flights", "(II)I"⟩
abbrev cX0_leftAt : ByteArray := prog_2_method_10_code
def yX0_leftAt : MethodName := ⟨RX0, "leftAt", "(II)I"⟩
abbrev cX0_mostAmong : ByteArray := prog_2_method_11_code
def yX0_mostAmong : MethodName := ⟨RX0, "mostAmong", "(II)I"⟩
abbrev cX0_begin : ByteArray := prog_2_method_12_code
def yX0_begin : MethodName := ⟨RX0, "begin", "()V"⟩
abbrev cX0_trap : ByteArray := prog_2_method_13_code
def yX0_trap : MethodName := ⟨RX0, "trap", "()V"⟩
abbrev cX0_widen : ByteArray := prog_2_method_14_code
def yX0_widen : MethodName := ⟨RX0, "widen", "(I)V"⟩
abbrev cX0_joinRows : ByteArray := prog_2_method_15_code
def yX0_joinRows : MethodName := ⟨RX0, "joinRows", "(III)V"⟩
abbrev cX0_note : ByteArray := prog_2_method_16_code
def yX0_note : MethodName := ⟨RX0, "note", "(I)Z"⟩
abbrev cX1_init : ByteArray := prog_3_method_1_code
def yX1_init : MethodName := ⟨RX1, "<init>", "(LRunnerNet$Net;)V"⟩
abbrev cX1_takenAway : ByteArray := prog_3_method_2_code
def yX1_takenAway : MethodName := ⟨RX1, "takenAway", "(I)I"⟩
abbrev cX1_leastCovered : ByteArray := prog_3_method_3_code
def yX1_leastCovered : MethodName := ⟨RX1, "leastCovered", "(I)I"⟩
abbrev cX1_isCovered : ByteArray := prog_3_method_4_code
def yX1_isCovered : MethodName := ⟨RX1, "isCovered", "(II)Z"⟩
abbrev cX1_leastSet : ByteArray := prog_3_method_5_code
def yX1_leastSet : MethodName := ⟨RX1, "leastSet", "(Z)I"⟩
abbrev cX1_touchesAll : ByteArray := prog_3_method_6_code
def yX1_touchesAll : MethodName := ⟨RX1, "touchesAll", "(I)Z"⟩
abbrev cX2_init : ByteArray := prog_4_method_1_code
def yX2_init : MethodName := ⟨RX2, "<init>", "(LRunnerNet$Net;I)V"⟩
abbrev cX2_holdsOut : ByteArray := prog_4_method_2_code
def yX2_holdsOut : MethodName := ⟨RX2, "holdsOut", "(I)Z"⟩
abbrev cX2_leastSet : ByteArray := prog_4_method_3_code
def yX2_leastSet : MethodName := ⟨RX2, "leastSet", "()I"⟩
abbrev cX2_countSets : ByteArray := prog_4_method_4_code
def yX2_countSets : MethodName := ⟨RX2, "countSets", "(I)I"⟩
abbrev cX2_leastAnswer : ByteArray := prog_4_method_5_code
def yX2_leastAnswer : MethodName := ⟨RX2, "leastAnswer", "(II)I"⟩
abbrev cX2_isSafe : ByteArray := prog_4_method_6_code
def yX2_isSafe : MethodName := ⟨RX2, "isSafe", "(I)Z"⟩
abbrev cX2_answersIn : ByteArray := prog_4_method_7_code
def yX2_answersIn : MethodName := ⟨RX2, "answersIn", "(III)J"⟩
abbrev cX2_having : ByteArray := prog_4_method_8_code
def yX2_having : MethodName := ⟨RX2, "having", "(II)J"⟩
abbrev cX2_solve : ByteArray := prog_4_method_9_code
def yX2_solve : MethodName := ⟨RX2, "solve", "()V"⟩
abbrev cX2_dropUnsafe : ByteArray := prog_4_method_10_code
def yX2_dropUnsafe : MethodName := ⟨RX2, "dropUnsafe", "()Z"⟩
abbrev cX2_answersAll : ByteArray := prog_4_method_11_code
def yX2_answersAll : MethodName := ⟨RX2, "answersAll", "(I)Z"⟩
abbrev cX2_put : ByteArray := prog_4_method_12_code
def yX2_put : MethodName := ⟨RX2, "put", "([JII)V"⟩
abbrev cX2_moveAlone : ByteArray := prog_4_method_13_code
def yX2_moveAlone : MethodName := ⟨RX2, "moveAlone", "()V"⟩
abbrev cX2_moveTogether : ByteArray := prog_4_method_14_code
def yX2_moveTogether : MethodName := ⟨RX2, "moveTogether", "()V"⟩
abbrev cX2_addPlace : ByteArray := prog_4_method_15_code
def yX2_addPlace : MethodName := ⟨RX2, "addPlace", "(III)V"⟩
abbrev cX3_init : ByteArray := prog_5_method_1_code
def yX3_init : MethodName := ⟨RX3, "<init>", "(I)V"⟩
abbrev cX3_places : ByteArray := prog_5_method_2_code
def yX3_places : MethodName := ⟨RX3, "places", "()I"⟩
abbrev cX3_changes : ByteArray := prog_5_method_3_code
def yX3_changes : MethodName := ⟨RX3, "changes", "()I"⟩
abbrev cX3_all : ByteArray := prog_5_method_4_code
def yX3_all : MethodName := ⟨RX3, "all", "()I"⟩
abbrev cX3_known : ByteArray := prog_5_method_5_code
def yX3_known : MethodName := ⟨RX3, "known", "(I)Z"⟩
abbrev cX3_holdsAll : ByteArray := prog_5_method_6_code
def yX3_holdsAll : MethodName := ⟨RX3, "holdsAll", "(I)Z"⟩
abbrev cX3_reset : ByteArray := prog_5_method_7_code
def yX3_reset : MethodName := ⟨RX3, "reset", "(I)V"⟩
abbrev cX3_set : ByteArray := prog_5_method_8_code
def yX3_set : MethodName := ⟨RX3, "set", "(IIZ)V"⟩
abbrev cX3_settle : ByteArray := prog_5_method_9_code
def yX3_settle : MethodName := ⟨RX3, "settle", "()V"⟩
abbrev cX3_outOf : ByteArray := prog_5_method_10_code
def yX3_outOf : MethodName := ⟨RX3, "outOf", "(I)I"⟩
abbrev cX3_bothWays : ByteArray := prog_5_method_11_code
def yX3_bothWays : MethodName := ⟨RX3, "bothWays", "(I)I"⟩
abbrev cX3_aheadOf : ByteArray := prog_5_method_12_code
def yX3_aheadOf : MethodName := ⟨RX3, "aheadOf", "(I)I"⟩
abbrev cX3_behindOf : ByteArray := prog_5_method_13_code
def yX3_behindOf : MethodName := ⟨RX3, "behindOf", "(I)I"⟩
abbrev cX3_around : ByteArray := prog_5_method_14_code
def yX3_around : MethodName := ⟨RX3, "around", "(I)I"⟩
abbrev cX3_leftBehind : ByteArray := prog_5_method_15_code
def yX3_leftBehind : MethodName := ⟨RX3, "leftBehind", "(II)I"⟩
abbrev cX3_distance : ByteArray := prog_5_method_16_code
def yX3_distance : MethodName := ⟨RX3, "distance", "(II)I"⟩
abbrev cX3_pairs : ByteArray := prog_5_method_17_code
def yX3_pairs : MethodName := ⟨RX3, "pairs", "()I"⟩
abbrev cX4_init : ByteArray := prog_6_method_1_code
def yX4_init : MethodName := ⟨RX4, "<init>", "(LRunnerNet$Net;Z)V"⟩
abbrev cX4_hunters : ByteArray := prog_6_method_2_code
def yX4_hunters : MethodName := ⟨RX4, "hunters", "()I"⟩
abbrev cX4_placeAt : ByteArray := prog_6_method_3_code
def yX4_placeAt : MethodName := ⟨RX4, "placeAt", "(I)I"⟩
abbrev cX4_solve : ByteArray := prog_6_method_4_code
def yX4_solve : MethodName := ⟨RX4, "solve", "()V"⟩
abbrev cX4_choose : ByteArray := prog_6_method_5_code
def yX4_choose : MethodName := ⟨RX4, "choose", "()V"⟩
abbrev cX4_most : ByteArray := prog_6_method_6_code
def yX4_most : MethodName := ⟨RX4, "most", "(II)I"⟩
abbrev cX4_border : ByteArray := prog_6_method_7_code
def yX4_border : MethodName := ⟨RX4, "border", "(I)I"⟩
abbrev cX4_neighbours : ByteArray := prog_6_method_8_code
def yX4_neighbours : MethodName := ⟨RX4, "neighbours", "(II)I"⟩
abbrev cX5_init : ByteArray := prog_7_method_1_code
def yX5_init : MethodName := ⟨RX5, "<init>", "()V"⟩
abbrev cX5_isOn : ByteArray := prog_7_method_2_code
def yX5_isOn : MethodName := ⟨RX5, "isOn", "()Z"⟩
abbrev cX5_hunters : ByteArray := prog_7_method_3_code
def yX5_hunters : MethodName := ⟨RX5, "hunters", "()I"⟩
abbrev cX5_speed : ByteArray := prog_7_method_4_code
def yX5_speed : MethodName := ⟨RX5, "speed", "()I"⟩
abbrev cX5_setting : ByteArray := prog_7_method_5_code
def yX5_setting : MethodName := ⟨RX5, "setting", "()I"⟩
abbrev cX5_place : ByteArray := prog_7_method_6_code
def yX5_place : MethodName := ⟨RX5, "place", "()I"⟩
abbrev cX5_gone : ByteArray := prog_7_method_7_code
def yX5_gone : MethodName := ⟨RX5, "gone", "()I"⟩
abbrev cX5_begin : ByteArray := prog_7_method_8_code
def yX5_begin : MethodName := ⟨RX5, "begin", "(IIII)V"⟩
abbrev cX5_go : ByteArray := prog_7_method_9_code
def yX5_go : MethodName := ⟨RX5, "go", "(II)V"⟩
abbrev cX5_end : ByteArray := prog_7_method_10_code
def yX5_end : MethodName := ⟨RX5, "end", "()V"⟩
abbrev cX6_init : ByteArray := prog_8_method_1_code
def yX6_init : MethodName := ⟨RX6, "<init>", "(LRunnerNet$Net;I)V"⟩
abbrev cX6_hunters : ByteArray := prog_8_method_2_code
def yX6_hunters : MethodName := ⟨RX6, "hunters", "()I"⟩
abbrev cX6_size : ByteArray := prog_8_method_3_code
def yX6_size : MethodName := ⟨RX6, "size", "()I"⟩
abbrev cX6_figure : ByteArray := prog_8_method_4_code
def yX6_figure : MethodName := ⟨RX6, "figure", "(II)I"⟩
abbrev cX6_placesOf : ByteArray := prog_8_method_5_code
def yX6_placesOf : MethodName := ⟨RX6, "placesOf", "(I)I"⟩
abbrev cX6_holds : ByteArray := prog_8_method_6_code
def yX6_holds : MethodName := ⟨RX6, "holds", "(II)Z"⟩
abbrev cX6_isRow : ByteArray := prog_8_method_7_code
def yX6_isRow : MethodName := ⟨RX6, "isRow", "(I)Z"⟩
abbrev cX6_isSetting : ByteArray := prog_8_method_8_code
def yX6_isSetting : MethodName := ⟨RX6, "isSetting", "(I)Z"⟩
abbrev cX6_told : ByteArray := prog_8_method_9_code
def yX6_told : MethodName := ⟨RX6, "told", "(I)I"⟩
abbrev cX6_rising : ByteArray := prog_8_method_10_code
def yX6_rising : MethodName := ⟨RX6, "rising", "(I)I"⟩
abbrev cX6_canStep : ByteArray := prog_8_method_11_code
def yX6_canStep : MethodName := ⟨RX6, "canStep", "(II)Z"⟩
abbrev cX7_init : ByteArray := prog_9_method_1_code
def yX7_init : MethodName := ⟨RX7, "<init>", "()V"⟩
abbrev cX7_length : ByteArray := prog_9_method_2_code
def yX7_length : MethodName := ⟨RX7, "length", "()I"⟩
abbrev cX7_drop : ByteArray := prog_9_method_3_code
def yX7_drop : MethodName := ⟨RX7, "drop", "()V"⟩
abbrev cX7_append : ByteArray := prog_9_method_4_code
def yX7_append : MethodName := ⟨RX7, "append", "(JI)Z"⟩
abbrev cX7_read : ByteArray := prog_9_method_5_code
def yX7_read : MethodName := ⟨RX7, "read", "(I)I"⟩
abbrev cX7_layOn : ByteArray := prog_9_method_6_code
def yX7_layOn : MethodName := ⟨RX7, "layOn", "(LRunnerNet$Net;)V"⟩
abbrev cX7_readLine : ByteArray := prog_9_method_7_code
def yX7_readLine : MethodName := ⟨RX7, "readLine", "(I)Z"⟩
abbrev cX7_byteAt : ByteArray := prog_9_method_8_code
def yX7_byteAt : MethodName := ⟨RX7, "byteAt", "(I)I"⟩
abbrev cX7_kindAt : ByteArray := prog_9_method_9_code
def yX7_kindAt : MethodName := ⟨RX7, "kindAt", "(I)I"⟩
abbrev cX7_nextToken : ByteArray := prog_9_method_10_code
def yX7_nextToken : MethodName := ⟨RX7, "nextToken", "()V"⟩
abbrev cX7_lineKind : ByteArray := prog_9_method_11_code
def yX7_lineKind : MethodName := ⟨RX7, "lineKind", "()I"⟩
abbrev cX7_isWord : ByteArray := prog_9_method_12_code
def yX7_isWord : MethodName := ⟨RX7, "isWord", "(Ljava/lang/String;)Z"⟩
abbrev cX7_number : ByteArray := prog_9_method_13_code
def yX7_number : MethodName := ⟨RX7, "number", "()I"⟩
abbrev cX8_init : ByteArray := prog_10_method_1_code
def yX8_init : MethodName := ⟨RX8, "<init>", "(LRunnerNet$Net;LRunnerNet$Settings;)V"⟩
abbrev cX8_length : ByteArray := prog_10_method_2_code
def yX8_length : MethodName := ⟨RX8, "length", "()I"⟩
abbrev cX8_settingAt : ByteArray := prog_10_method_3_code
def yX8_settingAt : MethodName := ⟨RX8, "settingAt", "(I)I"⟩
abbrev cX8_search : ByteArray := prog_10_method_4_code
def yX8_search : MethodName := ⟨RX8, "search", "(LRunnerNet$Settings;I)V"⟩
abbrev cX8_parentOf : ByteArray := prog_10_method_5_code
def yX8_parentOf : MethodName := ⟨RX8, "parentOf", "(I)I"⟩
abbrev cX8_depthOf : ByteArray := prog_10_method_6_code
def yX8_depthOf : MethodName := ⟨RX8, "depthOf", "(I)I"⟩
abbrev cX8_expand : ByteArray := prog_10_method_7_code
def yX8_expand : MethodName := ⟨RX8, "expand", "(I)V"⟩
abbrev cX8_step : ByteArray := prog_10_method_8_code
def yX8_step : MethodName := ⟨RX8, "step", "(II)V"⟩
abbrev cX8_meet : ByteArray := prog_10_method_9_code
def yX8_meet : MethodName := ⟨RX8, "meet", "(III)V"⟩
abbrev cX9_init : ByteArray := prog_1_method_1_code
def yX9_init : MethodName := ⟨RX9, "<init>", "()V"⟩
abbrev cX9_write : ByteArray := prog_1_method_2_code
def yX9_write : MethodName := ⟨RX9, "write", "(JI)I"⟩
abbrev cX9_erase : ByteArray := prog_1_method_3_code
def yX9_erase : MethodName := ⟨RX9, "erase", "()I"⟩
abbrev cX9_fault : ByteArray := prog_1_method_4_code
def yX9_fault : MethodName := ⟨RX9, "fault", "()I"⟩
abbrev cX9_laid : ByteArray := prog_1_method_5_code
def yX9_laid : MethodName := ⟨RX9, "laid", "()I"⟩
abbrev cX9_road : ByteArray := prog_1_method_6_code
def yX9_road : MethodName := ⟨RX9, "road", "(IIZZ)I"⟩
abbrev cX9_steps : ByteArray := prog_1_method_7_code
def yX9_steps : MethodName := ⟨RX9, "steps", "(I)I"⟩
abbrev cX9_far : ByteArray := prog_1_method_8_code
def yX9_far : MethodName := ⟨RX9, "far", "(II)I"⟩
abbrev cX9_rounds : ByteArray := prog_1_method_9_code
def yX9_rounds : MethodName := ⟨RX9, "rounds", "(IIII)I"⟩
abbrev cX9_worth : ByteArray := prog_1_method_10_code
def yX9_worth : MethodName := ⟨RX9, "worth", "(III)I"⟩
abbrev cX9_best : ByteArray := prog_1_method_11_code
def yX9_best : MethodName := ⟨RX9, "best", "(III)I"⟩
abbrev cX9_fewest : ByteArray := prog_1_method_12_code
def yX9_fewest : MethodName := ⟨RX9, "fewest", "(I)I"⟩
abbrev cX9_escapes : ByteArray := prog_1_method_13_code
def yX9_escapes : MethodName := ⟨RX9, "escapes", "(II)I"⟩
abbrev cX9_hunt : ByteArray := prog_1_method_14_code
def yX9_hunt : MethodName := ⟨RX9, "hunt", "(IIII)I"⟩
abbrev cX9_flee : ByteArray := prog_1_method_15_code
def yX9_flee : MethodName := ⟨RX9, "flee", "(IIII)I"⟩
abbrev cX9_play : ByteArray := prog_1_method_16_code
def yX9_play : MethodName := ⟨RX9, "play", "(IIII)I"⟩
abbrev cX9_turn : ByteArray := prog_1_method_17_code
def yX9_turn : MethodName := ⟨RX9, "turn", "(II)I"⟩
abbrev cX9_now : ByteArray := prog_1_method_18_code
def yX9_now : MethodName := ⟨RX9, "now", "(I)I"⟩
abbrev cX9_spread : ByteArray := prog_1_method_19_code
def yX9_spread : MethodName := ⟨RX9, "spread", "(III)I"⟩
abbrev cX9_clear : ByteArray := prog_1_method_20_code
def yX9_clear : MethodName := ⟨RX9, "clear", "(III)I"⟩
abbrev cX9_free : ByteArray := prog_1_method_21_code
def yX9_free : MethodName := ⟨RX9, "free", "(II)I"⟩
abbrev cX9_flying : ByteArray := prog_1_method_22_code
def yX9_flying : MethodName := ⟨RX9, "flying", "(ZI)I"⟩
abbrev cX9_away : ByteArray := prog_1_method_23_code
def yX9_away : MethodName := ⟨RX9, "away", "(I)I"⟩
abbrev cX9_least : ByteArray := prog_1_method_24_code
def yX9_least : MethodName := ⟨RX9, "least", "(I)I"⟩
abbrev cX9_safe : ByteArray := prog_1_method_25_code
def yX9_safe : MethodName := ⟨RX9, "safe", "(II)I"⟩
abbrev cX9_guards : ByteArray := prog_1_method_26_code
def yX9_guards : MethodName := ⟨RX9, "guards", "(II)I"⟩
abbrev cX9_answer : ByteArray := prog_1_method_27_code
def yX9_answer : MethodName := ⟨RX9, "answer", "(III)I"⟩
abbrev cX9_count : ByteArray := prog_1_method_28_code
def yX9_count : MethodName := ⟨RX9, "count", "(I)I"⟩
abbrev cX9_has : ByteArray := prog_1_method_29_code
def yX9_has : MethodName := ⟨RX9, "has", "(II)Z"⟩
abbrev cX9_isChase : ByteArray := prog_1_method_30_code
def yX9_isChase : MethodName := ⟨RX9, "isChase", "(II)Z"⟩
abbrev cX9_isWatch : ByteArray := prog_1_method_31_code
def yX9_isWatch : MethodName := ⟨RX9, "isWatch", "(II)Z"⟩
abbrev cX9_settings : ByteArray := prog_1_method_32_code
def yX9_settings : MethodName := ⟨RX9, "settings", "(I)LRunnerNet$Settings;"⟩
abbrev cX9_chase : ByteArray := prog_1_method_33_code
def yX9_chase : MethodName := ⟨RX9, "chase", "(II)LRunnerNet$Chase;"⟩
abbrev cX9_refuseStand : ByteArray := prog_1_method_34_code
def yX9_refuseStand : MethodName := ⟨RX9, "refuseStand", "(IIII)I"⟩
abbrev cX9_isCaught : ByteArray := prog_1_method_35_code
def yX9_isCaught : MethodName := ⟨RX9, "isCaught", "()Z"⟩
abbrev cX9_settingBehind : ByteArray := prog_1_method_36_code
def yX9_settingBehind : MethodName := ⟨RX9, "settingBehind", "(I)I"⟩
abbrev cX9_placeBehind : ByteArray := prog_1_method_37_code
def yX9_placeBehind : MethodName := ⟨RX9, "placeBehind", "(II)I"⟩
abbrev cX10_init : ByteArray := prog_12_method_1_code
def yX10_init : MethodName := ⟨RX10, "<init>", "()V"⟩
abbrev cX10_in : ByteArray := prog_12_method_2_code
def yX10_in : MethodName := ⟨RX10, "in", "(III)Z"⟩
abbrev cX10_isPlace : ByteArray := prog_12_method_3_code
def yX10_isPlace : MethodName := ⟨RX10, "isPlace", "(I)Z"⟩
abbrev cX10_bits : ByteArray := prog_12_method_4_code
def yX10_bits : MethodName := ⟨RX10, "bits", "(I)I"⟩
abbrev cX10_stepsOf : ByteArray := prog_12_method_5_code
def yX10_stepsOf : MethodName := ⟨RX10, "stepsOf", "(I)I"⟩
abbrev cX10_forget : ByteArray := prog_12_method_6_code
def yX10_forget : MethodName := ⟨RX10, "forget", "()V"⟩
abbrev cX10_write : ByteArray := prog_12_method_7_code
def yX10_write : MethodName := ⟨RX10, "write", "(JI)I"⟩
abbrev cX10_erase : ByteArray := prog_12_method_8_code
def yX10_erase : MethodName := ⟨RX10, "erase", "()I"⟩
abbrev cX10_nextToken : ByteArray := prog_12_method_9_code
def yX10_nextToken : MethodName := ⟨RX10, "nextToken", "()V"⟩
abbrev cX10_fails : ByteArray := prog_12_method_10_code
def yX10_fails : MethodName := ⟨RX10, "fails", "()Z"⟩
abbrev cX10_isNumber : ByteArray := prog_12_method_11_code
def yX10_isNumber : MethodName := ⟨RX10, "isNumber", "(III)Z"⟩
abbrev cX10_isLine : ByteArray := prog_12_method_12_code
def yX10_isLine : MethodName := ⟨RX10, "isLine", "(I)Z"⟩
abbrev cX10_isRead : ByteArray := prog_12_method_13_code
def yX10_isRead : MethodName := ⟨RX10, "isRead", "()Z"⟩
abbrev cX10_fault : ByteArray := prog_12_method_14_code
def yX10_fault : MethodName := ⟨RX10, "fault", "()I"⟩
abbrev cX10_laid : ByteArray := prog_12_method_15_code
def yX10_laid : MethodName := ⟨RX10, "laid", "()I"⟩
abbrev cX10_road : ByteArray := prog_12_method_16_code
def yX10_road : MethodName := ⟨RX10, "road", "(IIZZ)I"⟩
abbrev cX10_steps : ByteArray := prog_12_method_17_code
def yX10_steps : MethodName := ⟨RX10, "steps", "(I)I"⟩
abbrev cX10_stepped : ByteArray := prog_12_method_18_code
def yX10_stepped : MethodName := ⟨RX10, "stepped", "(I)I"⟩
abbrev cX10_far : ByteArray := prog_12_method_19_code
def yX10_far : MethodName := ⟨RX10, "far", "(II)I"⟩
abbrev cX10_spell : ByteArray := prog_12_method_20_code
def yX10_spell : MethodName := ⟨RX10, "spell", "(II)V"⟩
abbrev cX10_settled : ByteArray := prog_12_method_21_code
def yX10_settled : MethodName := ⟨RX10, "settled", "(I)I"⟩
abbrev cX10_powerOf : ByteArray := prog_12_method_22_code
def yX10_powerOf : MethodName := ⟨RX10, "powerOf", "(I)I"⟩
abbrev cX10_isSetting : ByteArray := prog_12_method_23_code
def yX10_isSetting : MethodName := ⟨RX10, "isSetting", "(II)Z"⟩
abbrev cX10_placesOf : ByteArray := prog_12_method_24_code
def yX10_placesOf : MethodName := ⟨RX10, "placesOf", "(II)I"⟩
abbrev cX10_moved : ByteArray := prog_12_method_25_code
def yX10_moved : MethodName := ⟨RX10, "moved", "(III)I"⟩
abbrev cX10_at : ByteArray := prog_12_method_26_code
def yX10_at : MethodName := ⟨RX10, "at", "(IIII)I"⟩
abbrev cX10_flight : ByteArray := prog_12_method_27_code
def yX10_flight : MethodName := ⟨RX10, "flight", "(III)I"⟩
abbrev cX10_behind : ByteArray := prog_12_method_28_code
def yX10_behind : MethodName := ⟨RX10, "behind", "(IIII)I"⟩
abbrev cX10_findFlights : ByteArray := prog_12_method_29_code
def yX10_findFlights : MethodName := ⟨RX10, "findFlights", "(II)V"⟩
abbrev cX10_leavable : ByteArray := prog_12_method_30_code
def yX10_leavable : MethodName := ⟨RX10, "leavable", "(II)I"⟩
abbrev cX10_findGood : ByteArray := prog_12_method_31_code
def yX10_findGood : MethodName := ⟨RX10, "findGood", "(III)V"⟩
abbrev cX10_reckon : ByteArray := prog_12_method_32_code
def yX10_reckon : MethodName := ⟨RX10, "reckon", "(II)V"⟩
abbrev cX10_isChase : ByteArray := prog_12_method_33_code
def yX10_isChase : MethodName := ⟨RX10, "isChase", "(II)Z"⟩
abbrev cX10_told : ByteArray := prog_12_method_34_code
def yX10_told : MethodName := ⟨RX10, "told", "(II)I"⟩
abbrev cX10_rounds : ByteArray := prog_12_method_35_code
def yX10_rounds : MethodName := ⟨RX10, "rounds", "(IIII)I"⟩
abbrev cX10_worthOf : ByteArray := prog_12_method_36_code
def yX10_worthOf : MethodName := ⟨RX10, "worthOf", "(III)I"⟩
abbrev cX10_worth : ByteArray := prog_12_method_37_code
def yX10_worth : MethodName := ⟨RX10, "worth", "(III)I"⟩
abbrev cX10_bestOf : ByteArray := prog_12_method_38_code
def yX10_bestOf : MethodName := ⟨RX10, "bestOf", "(II)I"⟩
abbrev cX10_best : ByteArray := prog_12_method_39_code
def yX10_best : MethodName := ⟨RX10, "best", "(III)I"⟩
abbrev cX10_fewest : ByteArray := prog_12_method_40_code
def yX10_fewest : MethodName := ⟨RX10, "fewest", "(I)I"⟩
abbrev cX10_escapes : ByteArray := prog_12_method_41_code
def yX10_escapes : MethodName := ⟨RX10, "escapes", "(II)I"⟩
abbrev cX10_huntOf : ByteArray := prog_12_method_42_code
def yX10_huntOf : MethodName := ⟨RX10, "huntOf", "(IIII)I"⟩
abbrev cX10_fleeOf : ByteArray := prog_12_method_43_code
def yX10_fleeOf : MethodName := ⟨RX10, "fleeOf", "(IIII)I"⟩
abbrev cX10_hunt : ByteArray := prog_12_method_44_code
def yX10_hunt : MethodName := ⟨RX10, "hunt", "(IIII)I"⟩
abbrev cX10_flee : ByteArray := prog_12_method_45_code
def yX10_flee : MethodName := ⟨RX10, "flee", "(IIII)I"⟩
abbrev cX10_play : ByteArray := prog_12_method_46_code
def yX10_play : MethodName := ⟨RX10, "play", "(IIII)I"⟩
abbrev cX10_isCaught : ByteArray := prog_12_method_47_code
def yX10_isCaught : MethodName := ⟨RX10, "isCaught", "()Z"⟩
abbrev cX10_turn : ByteArray := prog_12_method_48_code
def yX10_turn : MethodName := ⟨RX10, "turn", "(II)I"⟩
abbrev cX10_now : ByteArray := prog_12_method_49_code
def yX10_now : MethodName := ⟨RX10, "now", "(I)I"⟩
abbrev cX10_spreadOf : ByteArray := prog_12_method_50_code
def yX10_spreadOf : MethodName := ⟨RX10, "spreadOf", "(II)I"⟩
abbrev cX10_isSet : ByteArray := prog_12_method_51_code
def yX10_isSet : MethodName := ⟨RX10, "isSet", "(I)Z"⟩
abbrev cX10_spread : ByteArray := prog_12_method_52_code
def yX10_spread : MethodName := ⟨RX10, "spread", "(III)I"⟩
abbrev cX10_findClear : ByteArray := prog_12_method_53_code
def yX10_findClear : MethodName := ⟨RX10, "findClear", "(II)V"⟩
abbrev cX10_canStep : ByteArray := prog_12_method_54_code
def yX10_canStep : MethodName := ⟨RX10, "canStep", "(III)Z"⟩
abbrev cX10_lengthFound : ByteArray := prog_12_method_55_code
def yX10_lengthFound : MethodName := ⟨RX10, "lengthFound", "()I"⟩
abbrev cX10_clear : ByteArray := prog_12_method_56_code
def yX10_clear : MethodName := ⟨RX10, "clear", "(III)I"⟩
abbrev cX10_free : ByteArray := prog_12_method_57_code
def yX10_free : MethodName := ⟨RX10, "free", "(II)I"⟩
abbrev cX10_joinBoth : ByteArray := prog_12_method_58_code
def yX10_joinBoth : MethodName := ⟨RX10, "joinBoth", "()V"⟩
abbrev cX10_costOf : ByteArray := prog_12_method_59_code
def yX10_costOf : MethodName := ⟨RX10, "costOf", "(ZII)I"⟩
abbrev cX10_lesser : ByteArray := prog_12_method_60_code
def yX10_lesser : MethodName := ⟨RX10, "lesser", "(II)I"⟩
abbrev cX10_greater : ByteArray := prog_12_method_61_code
def yX10_greater : MethodName := ⟨RX10, "greater", "(II)I"⟩
abbrev cX10_findRest : ByteArray := prog_12_method_62_code
def yX10_findRest : MethodName := ⟨RX10, "findRest", "(Z)V"⟩
abbrev cX10_flying : ByteArray := prog_12_method_63_code
def yX10_flying : MethodName := ⟨RX10, "flying", "(ZI)I"⟩
abbrev cX10_stepsBoth : ByteArray := prog_12_method_64_code
def yX10_stepsBoth : MethodName := ⟨RX10, "stepsBoth", "(I)I"⟩
abbrev cX10_coveredIn : ByteArray := prog_12_method_65_code
def yX10_coveredIn : MethodName := ⟨RX10, "coveredIn", "(I)I"⟩
abbrev cX10_away : ByteArray := prog_12_method_66_code
def yX10_away : MethodName := ⟨RX10, "away", "(I)I"⟩
abbrev cX10_doesTouch : ByteArray := prog_12_method_67_code
def yX10_doesTouch : MethodName := ⟨RX10, "doesTouch", "(I)Z"⟩
abbrev cX10_least : ByteArray := prog_12_method_68_code
def yX10_least : MethodName := ⟨RX10, "least", "(I)I"⟩
abbrev cX10_findGoes : ByteArray := prog_12_method_69_code
def yX10_findGoes : MethodName := ⟨RX10, "findGoes", "()V"⟩
abbrev cX10_goOneMore : ByteArray := prog_12_method_70_code
def yX10_goOneMore : MethodName := ⟨RX10, "goOneMore", "(I)V"⟩
abbrev cX10_answerOf : ByteArray := prog_12_method_71_code
def yX10_answerOf : MethodName := ⟨RX10, "answerOf", "(III)I"⟩
abbrev cX10_stepsFrom : ByteArray := prog_12_method_72_code
def yX10_stepsFrom : MethodName := ⟨RX10, "stepsFrom", "(I)I"⟩
abbrev cX10_canAnswer : ByteArray := prog_12_method_73_code
def yX10_canAnswer : MethodName := ⟨RX10, "canAnswer", "(II)Z"⟩
abbrev cX10_guard : ByteArray := prog_12_method_74_code
def yX10_guard : MethodName := ⟨RX10, "guard", "()V"⟩
abbrev cX10_safe : ByteArray := prog_12_method_75_code
def yX10_safe : MethodName := ⟨RX10, "safe", "(II)I"⟩
abbrev cX10_guards : ByteArray := prog_12_method_76_code
def yX10_guards : MethodName := ⟨RX10, "guards", "(II)I"⟩
abbrev cX10_answer : ByteArray := prog_12_method_77_code
def yX10_answer : MethodName := ⟨RX10, "answer", "(III)I"⟩
abbrev cX10_count : ByteArray := prog_12_method_78_code
def yX10_count : MethodName := ⟨RX10, "count", "(I)I"⟩
abbrev cJ6_bitCount_0f7a4 : ByteArray := prog_13_method_49_code
def yJ6_bitCount_0f7a4 : MethodName := ⟨RJ6, "bitCount", "(I)I"⟩
abbrev cJ13_bitCount_95d88 : ByteArray := prog_14_method_50_code
def yJ13_bitCount_95d88 : MethodName := ⟨RJ13, "bitCount", "(J)I"⟩
abbrev cJ0_length_8abf5 : ByteArray := prog_16_method_54_code
def yJ0_length_8abf5 : MethodName := ⟨RJ0, "length", "()I"⟩
abbrev cJ0_charAt_5068e : ByteArray := prog_16_method_56_code
def yJ0_charAt_5068e : MethodName := ⟨RJ0, "charAt", "(I)C"⟩
abbrev cJ0_coder_7d493 : ByteArray := prog_16_method_152_code
def yJ0_coder_7d493 : MethodName := ⟨RJ0, "coder", "()B"⟩
abbrev cJ0_isLatin1_aae02 : ByteArray := prog_16_method_154_code
def yJ0_isLatin1_aae02 : MethodName := ⟨RJ0, "isLatin1", "()Z"⟩
abbrev cJ0_checkIndex_df160 : ByteArray := prog_16_method_155_code
def yJ0_checkIndex_df160 : MethodName := ⟨RJ0, "checkIndex", "(II)V"⟩
abbrev cJ1_charAt_3b067 : ByteArray := prog_17_method_2_code
def yJ1_charAt_3b067 : MethodName := ⟨RJ1, "charAt", "([BI)C"⟩
abbrev cJ7_fill_d0a16 : ByteArray := prog_20_method_101_code
def yJ7_fill_d0a16 : MethodName := ⟨RJ7, "fill", "([JJ)V"⟩
abbrev cJ7_fill_53178 : ByteArray := prog_20_method_103_code
def yJ7_fill_53178 : MethodName := ⟨RJ7, "fill", "([II)V"⟩
abbrev cJ3_checkIndex_8e157 : ByteArray := prog_21_method_11_code
def yJ3_checkIndex_8e157 : MethodName := ⟨RJ3, "checkIndex", "(IILjava/util/function/BiFunction;)I"⟩
abbrev vwCl : List vw_C := [(RX0, TX0, 8), (RX1, TX1, 1), (RX2, TX2, 5), (RX3, TX3, 6), (RX4, TX4, 5), (RX5, TX5, 6), (RX6, TX6, 4), (RX7, TX7, 9), (RX8, TX8, 10), (RX9, TX9, 10), (RX10, TX10, 41)]
def tT : List Cond := lw_tbl.filter goodWord
theorem tM {w : Cond} (i : Nat) (h : lw_tbl[i]? = some w) (hg : goodWord w = true) : w ∈ tT := List.mem_filter.mpr ⟨List.mem_of_getElem? h, hg⟩
theorem tG {ws : List Cond} (h : ∀ w ∈ ws, w ∈ tT) : GoodIn tT ws := fun w hw => ⟨h w hw, good_of_word (List.mem_filter.mp (h w hw)).2⟩
theorem inX0 : ∀ w ∈ u_ws RX0 TX0 8, w ∈ tT := by decide +kernel
theorem inX1 : ∀ w ∈ u_ws RX1 TX1 1, w ∈ tT := by decide +kernel
theorem inX2 : ∀ w ∈ u_ws RX2 TX2 5, w ∈ tT := by decide +kernel
theorem inX3 : ∀ w ∈ u_ws RX3 TX3 6, w ∈ tT := by decide +kernel
theorem inX4 : ∀ w ∈ u_ws RX4 TX4 5, w ∈ tT := by decide +kernel
theorem inX5 : ∀ w ∈ u_ws RX5 TX5 6, w ∈ tT := by decide +kernel
theorem inX6 : ∀ w ∈ u_ws RX6 TX6 4, w ∈ tT := by decide +kernel
theorem inX7 : ∀ w ∈ u_ws RX7 TX7 9, w ∈ tT := by decide +kernel
theorem inX8 : ∀ w ∈ u_ws RX8 TX8 10, w ∈ tT := by decide +kernel
theorem inX9 : ∀ w ∈ u_ws RX9 TX9 10, w ∈ tT := by decide +kernel
theorem inX10 : ∀ w ∈ u_ws RX10 TX10 41, w ∈ tT := by decide +kernel
end
section
def KD : List Nat := [9, 3, 11, 11, 11, 11, 7, 11, 11, 11, 11, 16, 14, 5, 8, 11, 11, 11, 4, 11, 11, 4, 11, 11, 1, 15, 2, 12, 12, 2, 12, 12, 6, 11, 6, 11, 6, 11, 99, 99, 0, 11, 11, 11, 11, 0, 11, 11, 11, 11, 0, 11, 11, 11, 11, 0, 11, 11, 11, 11, 0, 11, 11, 11, 11, 0, 11, 11, 11, 11, 0, 11, 11, 11, 11, 0, 11, 11, 11, 11, 0, 11, 11, 11, 11, 99, 99, 99, 99, 99, 99, 99, 99, 99, 99, 99, 99, 99, 99, 99, 10, 11, 11, 11, 13, 11, 11, 11, 11, 11, 11, 11, 13, 11, 11, 11, 11, 11, 11, 13, 13, 13, 13]
def LN : List Nat := [0, 0, 8, 8, 256, 256, 0, 160, 16, 16, 16, 3, 9, 0, 0, 2816, 2816, 512, 0, 256, 8, 0, 256, 8, 0, 2, 0, 1024, 4, 0, 1024, 4, 0, 8, 0, 64, 0, 512, 0, 0, 0, 64, 8, 8, 8, 0, 64, 8, 8, 8, 0, 64, 8, 8, 8, 0, 512, 64, 64, 64, 0, 512, 64, 64, 64, 0, 512, 64, 64, 64, 0, 4096, 512, 512, 512, 0, 4096, 512, 512, 512, 0, 4096, 512, 512, 512, 0, 0, 0, 0, 0, 0, 0, 0, 0, 0, 0, 0, 0, 0, 0, 0, 8, 160, 48, 9, 36864, 4096, 512, 3, 3, 16384, 16384, 3, 3, 3, 8, 256, 2048, 8, 65536, 512, 256, 256]
def RFs : List (List Nat) := [[1, 6, 11, 12, 13, 14, 18, 21, 24, 25], [0, 0, 2, 3, 4, 5], [], [], [], [], [7, 0, 0, 0, 0, 0, 8, 9, 10], [], [], [], [], [32, 34, 36], [40, 45, 50, 55, 60, 65, 70, 75, 80], [], [1, 15, 16, 17], [], [], [], [1, 0, 19, 20], [], [], [1, 0, 22, 23], [], [], [1], [26, 29], [1, 0, 27, 28], [], [], [1, 0, 30, 31], [], [], [1, 0, 0, 33], [], [1, 0, 0, 35], [], [1, 0, 0, 37], [], [], [], [1, 32, 0, 41, 42, 43, 44], [], [], [], [], [1, 32, 0, 46, 47, 48, 49], [], [], [], [], [1, 32, 0, 51, 52, 53, 54], [], [], [], [], [1, 34, 0, 56, 57, 58, 59], [], [], [], [], [1, 34, 0, 61, 62, 63, 64], [], [], [], [], [1, 34, 0, 66, 67, 68, 69], [], [], [], [], [1, 36, 0, 71, 72, 73, 74], [], [], [], [], [1, 36, 0, 76, 77, 78, 79], [], [], [], [], [1, 36, 0, 81, 82, 83, 84], [], [], [], [], [], [], [], [], [], [], [], [], [], [], [], [], [], [], [], [0, 101, 0, 102, 0, 0, 0, 0, 0, 0, 0, 0, 103, 104, 105, 106, 107, 108, 109, 0, 0, 0, 0, 0, 0, 110, 111, 0, 112, 113, 114, 115, 116, 117, 118, 0, 0, 119, 120, 121, 122], [], [], [], [], [], [], [], [], [], [], [], [], [], [], [], [], [], [], [], [], [], []]
def FTs : List (List Nat) := [[2, 2, 0, 2, 2, 2, 2, 0], [2], [2, 0, 2, 2, 0], [0, 0, 2, 2, 2, 2], [2, 0, 2, 2, 0], [0, 0, 0, 0, 0, 0], [2, 0, 0, 2], [2, 0, 0, 0, 0, 0, 2, 2, 2], [2, 2, 2, 2, 3, 0, 0, 0, 0, 0], [2, 2, 2, 2, 2, 2, 2, 2, 2, 2], [0, 2, 0, 2, 0, 0, 1, 0, 0, 0, 0, 0, 2, 2, 2, 2, 2, 2, 2, 0, 0, 0, 0, 0, 0, 2, 2, 0, 2, 2, 2, 2, 2, 2, 2, 0, 0, 2, 2, 2, 2]]
def kd (a : Nat) : Nat := KD.getD a 99
def ln (a : Nat) : Nat := LN.getD a 0
def rf (a k : Nat) : Nat := (RFs.getD a []).getD k 0
def ft (a k : Nat) : Option Nat := (FTs.getD (kd a) [])[k]?
/-- the pure state: what int (boolean) and long slots hold, by cell and slot -/
abbrev St : Type := (Nat → Nat → Int32) × (Nat → Nat → Int64)
def setI (σ : St) (a k : Nat) (v : Int32) : St := (va_up σ.1 a (upd (σ.1 a) k v), σ.2)
def setL (σ : St) (a k : Nat) (v : Int64) : St := (σ.1, va_up σ.2 a (vp_updL (σ.2 a) k v))
def setR (σ : St) (a : Nat) (f : Nat → Int32) : St := (va_up σ.1 a f, σ.2)
/-- the machine's fixed part; the world's fixed part: classes' numbers, addresses, cells; a method: name, bytes, locals, type of its answer, room -/
abbrev Gm : Type := Program × Launch × Env × State × MethodId × Array Value × List Frame × Method × Code
abbrev Ev : Type := va_G × (Nat → ClassId) × (Nat → Nat) × List Nat × (Nat → Nat → Bool)
/-- what a walk may write, the cells and slots made so far -/
abbrev Gx : Type := (Nat → Prop) × Nat × Nat
abbrev Md : Type := MethodName × ByteArray × Nat × Option FieldType × Room
abbrev rV (E : Ev) (a : Nat) : Value := .ref (E.2.2.1 a)
def fv (E : Ev) (σ : St) (a t k : Nat) : Value := if t = 0 then .int (σ.1 a k) else if t = 1 then .long (σ.2 a k) else if E.2.2.2.2 a k = false then .null else if t = 2 then rV E (rf a k) else rV E (32 + 2 * ((σ.1 a k).toNatClampNeg % 3))
def flds (E : Ev) (σ : St) (a : Nat) : List Value := (FTs.getD (kd a) []).mapIdx (fun k t => fv E σ a t k)
def cont (E : Ev) (σ : St) (a : Nat) : va_E := if kd a < 11 then .inr (kd a, flds E σ a) else if kd a = 12 then .inl (E.2.1 12, ln a, .inr (.inl (σ.2 a))) else if kd a < 14 then .inl (E.2.1 (kd a), ln a, .inl (σ.1 a)) else .inl (E.2.1 (kd a), ln a, .inr (.inr (.inr (.inr (fun j => if E.2.2.2.2 a j = true then some (E.2.2.1 (rf a j)) else none)))))
def WS (E : Ev) (σ : St) : va_W := E.2.2.2.1.map (fun a => (E.2.2.1 a, cont E σ a))
def tys (E : Ev) : List (ClassId × FieldType) := [(E.2.1 11, .int), (E.2.1 12, .long), (E.2.1 13, .boolean), (E.2.1 14, .object "RunnerNet$Chase"), (E.2.1 15, .object "RunnerNet$Guards"), (E.2.1 16, .object "RunnerNet$Settings")]
def Eok (E : Ev) : Prop := E.2.2.2.1.Nodup ∧ ∀ a b, a ∈ E.2.2.2.1 → b ∈ E.2.2.2.1 → E.2.2.1 a = E.2.2.1 b → a = b
def AL (E : Ev) : Nat → Prop := fun q => ∃ a, a ∈ E.2.2.2.1 ∧ q = E.2.2.1 a
/-- all cells of the plan are there -/
def Full (E : Ev) : Prop := (∀ a, kd a < 99 → a ∈ E.2.2.2.1) ∧ ∀ a k, E.2.2.2.2 a k = true
theorem nd_inj : ∀ (l : List Nat), l.Nodup → ∀ (i j a : Nat), l[i]? = some a → l[j]? = some a → i = j
  | [], _, i, j, a, h, _ => by simp at h
  | b :: l, hn, i, j, a, h1, h2 => by
    have hn := List.nodup_cons.mp hn
    cases i with
    | zero =>
      cases j with
      | zero => rfl
      | succ j =>
        rw [List.getElem?_cons_zero] at h1
        rw [List.getElem?_cons_succ] at h2
        cases h1
        exact absurd (List.mem_of_getElem? h2) hn.1
    | succ i =>
      rw [List.getElem?_cons_succ] at h1
      cases j with
      | zero =>
        rw [List.getElem?_cons_zero] at h2
        cases h2
        exact absurd (List.mem_of_getElem? h1) hn.1
      | succ j =>
        rw [List.getElem?_cons_succ] at h2
        rw [nd_inj l hn.2 i j a h1 h2]
theorem ws_get {E : Ev} (σ : St) {a : Nat} (h : a ∈ E.2.2.2.1) : ∃ k : Nat, E.2.2.2.1[k]? = some a ∧ (WS E σ)[k]? = some (E.2.2.1 a, cont E σ a) := by
  obtain ⟨k, hk⟩ := List.getElem?_of_mem h
  exact ⟨k, hk, by simp [WS, hk]⟩
theorem ws_set {E : Ev} {σ σ' : St} {a k : Nat} (hE : Eok E) (hk : E.2.2.2.1[k]? = some a) (hc : ∀ b, b ≠ a → cont E σ' b = cont E σ b) : (WS E σ).set k (E.2.2.1 a, cont E σ' a) = WS E σ' := by
  apply List.ext_getElem?
  intro j
  by_cases hj : j = k
  · subst hj
    have hl : j < E.2.2.2.1.length := (List.getElem?_eq_some_iff.mp hk).1
    rw [List.getElem?_set_self (by simpa [WS] using hl)]
    simp [WS, hk]
  · rw [List.getElem?_set_ne (Ne.symm hj)]
    simp only [WS, List.getElem?_map]
    cases hb : E.2.2.2.1[j]? with
    | none => rfl
    | some b =>
      have hba : b ≠ a := by
        intro e
        subst e
        exact hj (nd_inj _ hE.1 _ _ _ hb hk)
      simp [hc b hba]
theorem ws_D {E : Ev} {A : Nat → Prop} (hE : Eok E) (hA : ∀ q, AL E q → A q) (σ : St) : va_D A (WS E σ) := by
  have key : ∀ (k : Nat) (q : Nat × va_E), (WS E σ)[k]? = some q → ∃ a, E.2.2.2.1[k]? = some a ∧ q = (E.2.2.1 a, cont E σ a) := by
    intro k q hk
    simp only [WS, List.getElem?_map] at hk
    cases hb : E.2.2.2.1[k]? with
    | none => rw [hb] at hk; cases hk
    | some b => rw [hb] at hk; cases hk; exact ⟨b, rfl, rfl⟩
  refine ⟨fun i j p q hi hj hpq => ?_, fun k q hk => ?_⟩
  · obtain ⟨a, ha, rfl⟩ := key i p hi
    obtain ⟨b, hb, rfl⟩ := key j q hj
    have hab : a = b := hE.2 a b (List.mem_of_getElem? ha) (List.mem_of_getElem? hb) hpq
    subst hab
    exact nd_inj _ hE.1 _ _ _ ha hb
  · obtain ⟨a, ha, rfl⟩ := key k q hk
    exact hA _ ⟨a, List.mem_of_getElem? ha, rfl⟩
theorem cont_o (E : Ev) (σ : St) {a ci : Nat} (h : kd a = ci) (hc : ci < 11) : cont E σ a = .inr (ci, flds E σ a) := by simp [cont, h, hc]
theorem cont_i (E : Ev) (σ : St) {a : Nat} (h : kd a = 11) : cont E σ a = .inl (E.2.1 11, ln a, .inl (σ.1 a)) := by simp [cont, h]
theorem cont_l (E : Ev) (σ : St) {a : Nat} (h : kd a = 12) : cont E σ a = .inl (E.2.1 12, ln a, .inr (.inl (σ.2 a))) := by simp [cont, h]
theorem cont_z (E : Ev) (σ : St) {a : Nat} (h : kd a = 13) : cont E σ a = .inl (E.2.1 13, ln a, .inl (σ.1 a)) := by simp [cont, h]
theorem cont_q (E : Ev) (σ : St) {a c : Nat} (h : kd a = c) (hc : 14 ≤ c) : cont E σ a = .inl (E.2.1 c, ln a, .inr (.inr (.inr (.inr (fun j => if E.2.2.2.2 a j = true then some (E.2.2.1 (rf a j)) else none))))) := by
  have h1 : ¬ c < 11 := by omega
  have h2 : ¬ c = 12 := by omega
  have h3 : ¬ c < 14 := by omega
  simp [cont, h, h1, h2, h3]
theorem flds_get (E : Ev) (σ : St) {a k t : Nat} (h : ft a k = some t) : (flds E σ a)[k]? = some (fv E σ a t k) := by
  unfold ft at h
  rw [flds, List.getElem?_mapIdx, h]
  rfl
theorem flds_len (E : Ev) (σ : St) {a k t : Nat} (h : ft a k = some t) : k < (flds E σ a).length := (List.getElem?_eq_some_iff.mp (flds_get E σ h)).1
theorem up_s {α : Type} (f : Nat → α) (a : Nat) (v : α) : va_up f a v a = v := by simp [va_up]
theorem up_n {α : Type} (f : Nat → α) {a b : Nat} (v : α) (h : b ≠ a) : va_up f a v b = f b := by simp [va_up, h]
theorem setI_s (σ : St) (a k : Nat) (v : Int32) : (setI σ a k v).1 a = upd (σ.1 a) k v := up_s _ _ _
theorem setI_n (σ : St) {a b : Nat} (k : Nat) (v : Int32) (h : b ≠ a) : (setI σ a k v).1 b = σ.1 b := up_n _ _ h
theorem setI_2 (σ : St) (a k : Nat) (v : Int32) : (setI σ a k v).2 = σ.2 := rfl
theorem setL_s (σ : St) (a k : Nat) (v : Int64) : (setL σ a k v).2 a = vp_updL (σ.2 a) k v := up_s _ _ _
theorem setL_n (σ : St) {a b : Nat} (k : Nat) (v : Int64) (h : b ≠ a) : (setL σ a k v).2 b = σ.2 b := up_n _ _ h
theorem setL_1 (σ : St) (a k : Nat) (v : Int64) : (setL σ a k v).1 = σ.1 := rfl
theorem setR_s (σ : St) (a : Nat) (f : Nat → Int32) : (setR σ a f).1 a = f := up_s _ _ _
theorem setR_n (σ : St) {a b : Nat} (f : Nat → Int32) (h : b ≠ a) : (setR σ a f).1 b = σ.1 b := up_n _ _ h
theorem setR_2 (σ : St) (a : Nat) (f : Nat → Int32) : (setR σ a f).2 = σ.2 := rfl
/-- a cell's contents rest on its own slots alone -/
theorem cont_cg (E : Ev) {σ σ' : St} {b : Nat} (h1 : σ'.1 b = σ.1 b) (h2 : σ'.2 b = σ.2 b) : cont E σ' b = cont E σ b := by simp [cont, flds, fv, h1, h2]
theorem flds_set (E : Ev) {σ σ' : St} {a k t : Nat} {v : Value} (h : ft a k = some t) (hv : fv E σ' a t k = v) (hn : ∀ j, j ≠ k → σ'.1 a j = σ.1 a j ∧ σ'.2 a j = σ.2 a j) : flds E σ' a = (flds E σ a).set k v := by
  apply List.ext_getElem?
  intro j
  by_cases hj : j = k
  · subst hj
    rw [List.getElem?_set_self (flds_len E σ h), flds_get E σ' h, hv]
  · rw [List.getElem?_set_ne (Ne.symm hj)]
    simp only [flds, List.getElem?_mapIdx, fv, (hn j hj).1, (hn j hj).2]
/-- what no method writes: private statics' links between nest mates, the table LACKS, the three texts, one static of String -/
def nestW : List Cond := [.methodLinkNest "RunnerNet" 20 ⟨"RunnerNet$Text", "<init>", "()V"⟩ "RunnerNet", .methodLinkNest "RunnerNet" 45 ⟨"RunnerNet$Play", "<init>", "()V"⟩ "RunnerNet", .methodLinkNest "RunnerNet$Net" 50 yX9_has "RunnerNet", .methodLinkNest "RunnerNet$Chase" 103 yX9_has "RunnerNet", .methodLinkNest "RunnerNet$Settings" 33 yX9_has "RunnerNet", .methodLinkNest "RunnerNet$Unseen" 97 yX9_has "RunnerNet", .methodLinkNest "RunnerNet$Orders" 55 yX9_has "RunnerNet", .methodLinkNest "RunnerNet$Covers" 33 yX9_has "RunnerNet", .methodLinkNest "RunnerNet$Guards" 95 yX9_has "RunnerNet"]
def lackV (j : Nat) : Int64 := [6148914691236517205, 3689348814741910323, 1085102592571150095, 71777214294589695, 281470681808895, 4294967295].getD j 0
def jsByt : List (List Int32) := [[114, 111, 97, 100], [119, 97, 121], [110, 101, 116]]
def jsLen : List Nat := [4, 3, 3]
/-- the three texts stand at 130, 131, 132, their bytes at 140, 141, 142, the table LACKS at 133: no cells of the world -/
def Kt (ad : Nat → Nat) (A : Nat → Prop) (U : State) (H : Heap) : Prop := (∀ w ∈ nestW, va_Nw w U) ∧ (va_Z "RunnerNet$Guards" "LACKS" "[J" (.ref (ad 133)) A U H ∧ va_T .long (ad 133) 6 (fun j => .long (lackV j)) A U H) ∧ (vk_S 3 jsLen jsByt (fun j => ad (130 + j)) (fun j => ad (140 + j)) A U H ∧ vk_R "RunnerNet$Text" 82 "road" (ad 130) U ∧ vk_R "RunnerNet$Text" 88 "way" (ad 131) U ∧ vk_R "RunnerNet$Text" 90 "net" (ad 132) U) ∧ va_Z "java/lang/String" "COMPACT_STRINGS" "Z" (.int 1) A U H ∧ va_Zq "jdk/internal/util/Preconditions" "SIOOBE_FORMATTER" "Ljava/util/function/BiFunction;" A U H ∧ va_AO "RunnerNet$Settings" U ∧ va_AO "RunnerNet$Chase" U ∧ va_AO "RunnerNet$Guards" U
def Ks (E : Ev) (A : Nat → Prop) (U : State) (H : Heap) : Prop := Kt E.2.2.1 A U H
theorem nestW_w {s U : State} (hW : s.WarmedH U.vm) : ∀ w ∈ nestW, va_Nw w s → va_Nw w U := by
  intro w hw h
  simp only [nestW, List.mem_cons, List.not_mem_nil, or_false] at hw
  rcases hw with rfl | rfl | rfl | rfl | rfl | rfl | rfl | rfl | rfl <;> exact va_Nw.warmM hW h
theorem Kt.warm {ad : Nat → Nat} {A : Nat → Prop} {s U : State} {H : Heap} (hW : s.WarmedH U.vm) (h : Kt ad A s H) : Kt ad A U H := by
  obtain ⟨h1, ⟨h2, h3⟩, ⟨h4, h5, h6, h7⟩, h8, h9, g1, g2, g3⟩ := h
  exact ⟨fun w hw => nestW_w hW w hw (h1 w hw), ⟨va_Z.moved hW.alike h2, va_T.moved hW.alike h3⟩, ⟨vk_S.moved hW.alike h4, vk_R.warm hW h5, vk_R.warm hW h6, vk_R.warm hW h7⟩, va_Z.moved hW.alike h8, va_Zq.moved hW.alike h9, va_AO.moved hW.alike g1, va_AO.moved hW.alike g2, va_AO.moved hW.alike g3⟩
theorem Kt.kept {ad : Nat → Nat} {A : Nat → Prop} {U : State} {H H1 : Heap} (hq : ∀ a : Nat, a < H.size → ¬ A a → H1[a]? = H[a]?) (h : Kt ad A U H) : Kt ad A U H1 := by
  obtain ⟨h1, ⟨h2, h3⟩, ⟨h4, h5⟩, h8, h9, g1, g2, g3⟩ := h
  exact ⟨h1, ⟨h2.kept hq, h3.kept hq⟩, ⟨h4.kept hq, h5⟩, h8.kept hq, h9.kept hq, g1, g2, g3⟩
theorem Kt.narrow {ad : Nat → Nat} {A B : Nat → Prop} {U : State} {H : Heap} (hAB : ∀ q, B q → A q) (h : Kt ad A U H) : Kt ad B U H := by
  obtain ⟨h1, ⟨h2, h3⟩, ⟨h4, h5⟩, h8, h9, g1, g2, g3⟩ := h
  exact ⟨h1, ⟨h2.narrow hAB, h3.narrow hAB⟩, ⟨h4.narrow hAB, h5⟩, h8.narrow hAB, h9.narrow hAB, g1, g2, g3⟩
theorem Kt.cg {ad ad' : Nat → Nat} {A : Nat → Prop} {U : State} {H : Heap} (he : ∀ j, ad' (130 + j) = ad (130 + j)) (h : Kt ad A U H) : Kt ad' A U H := by
  have e1 : (fun j => ad' (130 + j)) = (fun j => ad (130 + j)) := funext he
  have e2 : (fun j => ad' (140 + j)) = (fun j => ad (140 + j)) := funext (fun j => by have := he (10 + j); rw [show 130 + (10 + j) = 140 + j by omega] at this; exact this)
  have e3 : ad' 133 = ad 133 := he 3
  have e4 : ad' 130 = ad 130 := he 0
  have e5 : ad' 131 = ad 131 := he 1
  have e6 : ad' 132 = ad 132 := he 2
  unfold Kt
  rw [e1, e2, e3, e4, e5, e6]
  exact h
theorem Kt.same {ad : Nat → Nat} {A : Nat → Prop} {u U : State} {H : Heap} (hv : u.vm = U.vm) (h : Kt ad A u H) : Kt ad A U H := by
  obtain ⟨h1, ⟨h2, h3⟩, ⟨h4, h5, h6, h7⟩, h8, h9, g1, g2, g3⟩ := h
  have ha : u.vm.Alike U.vm := hv ▸ Vm.Alike.refl u.vm
  have hn : ∀ w ∈ nestW, w.onTables = true := by
    intro w hw
    simp only [nestW, List.mem_cons, List.not_mem_nil, or_false] at hw
    rcases hw with rfl | rfl | rfl | rfl | rfl | rfl | rfl | rfl | rfl <;> rfl
  exact ⟨fun w hw => va_Nw.same (hn w hw) hv (h1 w hw), ⟨va_Z.moved ha h2, va_T.moved ha h3⟩, ⟨vk_S.moved ha h4, vk_R.same hv.symm h5, vk_R.same hv.symm h6, vk_R.same hv.symm h7⟩, va_Z.moved ha h8, va_Zq.moved ha h9, va_AO.moved ha g1, va_AO.moved ha g2, va_AO.moved ha g3⟩
/-- the facts that stand through a method -/
def Cx (Γ : Gm) (Ξ : Gx) (E : Ev) (μ : Md) : Prop :=
  Γ.1.tables.exec = Jvm.exec ∧ Γ.2.2.2.2.2.2.2.2.code = μ.2.1 ∧ Γ.2.2.2.2.2.2.2.2.maxLocals = μ.2.2.1 ∧ Γ.2.2.2.2.2.2.2.1.sig.returnType = μ.2.2.2.1 ∧ Γ.2.2.2.1.vm.findClass μ.1.cls = some Γ.2.2.2.2.1.cls ∧ (∀ w ∈ tT, w.before Γ.2.2.2.2.2.1 Γ.2.2.2.1 = true) ∧ Γ.2.2.2.2.2.2.2.1.locks = false ∧ va_K E.1 vwCl (tys E) Γ.2.2.2.1 ∧ (Eok E ∧ (∀ q, AL E q → Ξ.1 q) ∧ Ξ.2.1 ≤ μ.2.2.2.2.cells ∧ Ξ.2.2 ≤ μ.2.2.2.2.slots) ∧ Ks E Ξ.1 Γ.2.2.2.1 Γ.2.2.2.1.heap
def Qm (E : Ev) (rv : Option Value) (σ : St) : Array Value → State → Outcome → State → Prop := fun _ st oc t => (oc = .returned rv ∧ va_P E.1 vwCl (WS E σ) t.heap) ∧ va_F (AL E) st t
/-- the machine at a place follows the pure text; Q r is what is due behind its answer r -/
def Sim {ρ : Type} (Q : ρ → State → Prop) (Γ : Gm) (Ξ : Gx) (E : Ev) (μ : Md) (σ : St) (pc : Nat) (lv : List (Nat × Value)) (st : List Value) (o : Option ρ) : Prop :=
  Cx Γ Ξ E μ → ∀ r : ρ, o = some r → ∀ (ls : Array Slot) (H : Heap) (locs : List Loc), lv_has ls μ.2.2.1 lv → va_P E.1 vwCl (WS E σ) H → va_S Ξ.1 Γ.2.2.2.1.heap H locs →
    W Γ.1 Γ.2.1 Γ.2.2.1 μ.2.2.2.2 Γ.2.2.2.1 Γ.2.2.2.2.1 Γ.2.2.2.2.2.1 Γ.2.2.2.2.2.2.1 Γ.2.2.2.2.2.2.2.1 Γ.2.2.2.2.2.2.2.2 H locs Ξ.2.1 Ξ.2.2 (Q r) (F0 Γ.2.2.2.2.1 pc ls st)
/-- an ordinary method's end: its answer r is told by en, the state then by fs -/
def qM {ρ : Type} (en : ρ → Option Value) (fs : ρ → St) (Γ : Gm) (E : Ev) : ρ → State → Prop := fun r => MQ Γ.2.2.2.2.2.2.1 (Qm E (en r) (fs r)) Γ.2.2.2.2.2.1 Γ.2.2.2.1 0 0 (AL E)
abbrev x0 (E : Ev) : Gx := (AL E, 0, 0)
def PcE (E : Ev) (As : List Value) (σ : St) : Array Value → State → Prop := va_Pc As (fun U => va_P E.1 vwCl (WS E σ) U.heap ∧ va_K E.1 vwCl (tys E) U ∧ Ks E (AL E) U U.heap)
/-- a method's contract: what it answers and what the world is then, if the pure text says so -/
def Ctr {ρ : Type} (l : Launch) (en : ρ → Option Value) (fs : ρ → St) (E : Ev) (μ : Md) (As : List Value) (σ : St) (o : Option ρ) : Prop :=
  Eok E → ∀ r : ρ, o = some r → Met l μ.1 (.code μ.1 μ.2.1 μ.2.2.1 μ.2.2.2.1 :: tT) μ.2.2.2.2 (PcE E As σ) (Qm E (en r) (fs r)) 0 0 (AL E)
def enI (x : Int32) : Option Value := some (.int x)
def enL (x : Int64) : Option Value := some (.long x)
def enV (_ : Unit) : Option Value := none
/-- a cell of a row of objects: Settings 32, 34, ..; Chases 40, 45, .. -/
def enS (E : Ev) (k : Nat) : Option Value := some (rV E (32 + 2 * k))
def enC (E : Ev) (i : Nat) : Option Value := some (rV E (40 + 5 * i))
def en2 {α : Type} (en : α → Option Value) : α × St → Option Value := fun q => en q.1
theorem ctr_of {ρ : Type} {l : Launch} {en : ρ → Option Value} {fs : ρ → St} {E : Ev} {μ : Md} {As : List Value} {σ : St} {o : Option ρ} (hy : plainName μ.1.cls = true) (hn : (lg_sl As).length ≤ μ.2.2.1)
    (h : ∀ Γ : Gm, Sim (qM en fs Γ E) Γ (x0 E) E μ σ 0 (lv_args 0 As) [] o) : Ctr l en fs E μ As σ o := by
  intro hE r ho
  refine Met.ofW (cc := μ.2.1) (maxL := μ.2.2.1) (ret := μ.2.2.2.1) hy rfl ?_
  intro p e s m args below meth c s₁ B hml hv
  obtain ⟨rfl, hP, hK, hKs⟩ := hv
  have hts : ∀ w ∈ tT, w.before As.toArray s = true := fun w hw => atoms_spec (ws := .code μ.1 μ.2.1 μ.2.2.1 μ.2.2.2.1 :: tT) B.pre w (List.mem_cons_of_mem _ hw)
  have hl := lv_entry As hn
  rw [lg_entry_eq]
  exact h (p, l, e, s, m, As.toArray, below, meth, c) ⟨B.exec, B.bytes, hml, B.returns, findClass_of_methodNamed B.named, hts, B.notSynchronized, hK, ⟨hE, fun _ h => h, Nat.zero_le _, Nat.zero_le _⟩, hKs⟩ r ho _ s.heap [] hl hP va_S.rf
end
section
/-- the words of the pure texts -/
def bd {α R : Type} (e : α) (K : α → R) : R := K e
def ck {R : Type} (i : Int32) (n : Nat) (k : Option R) : Option R := if i < 0 then none else if n ≤ i.toNatClampNeg then none else k
def ckN {R : Type} (i n : Nat) (k : Option R) : Option R := if i < n then k else none
def ckZ {R : Type} (x : Int32) (k : Option R) : Option R := if x = 0 then k else if x = 1 then k else none
def cal {β R : Type} (o : Option (β × St)) (K : β → St → Option R) : Option R := o.bind (fun q => K q.1 q.2)
def calP {β R : Type} (o : Option β) (K : β → Option R) : Option R := o.bind K
theorem ck_in {R : Type} {i : Int32} {n : Nat} {k : Option R} {r : R} (h : ck i n k = some r) : vp_in i n ∧ k = some r := by
  unfold ck at h
  by_cases h1 : i < 0
  · rw [if_pos h1] at h; cases h
  · rw [if_neg h1] at h
    by_cases h2 : n ≤ i.toNatClampNeg
    · rw [if_pos h2] at h; cases h
    · rw [if_neg h2] at h
      exact ⟨fun q => q.elim h1 h2, h⟩
theorem ckN_in {R : Type} {i n : Nat} {k : Option R} {r : R} (h : ckN i n k = some r) : i < n ∧ k = some r := by
  unfold ckN at h
  by_cases h1 : i < n
  · rw [if_pos h1] at h; exact ⟨h1, h⟩
  · rw [if_neg h1] at h; cases h
theorem ckZ_in {R : Type} {x : Int32} {k : Option R} {r : R} (h : ckZ x k = some r) : (x = 0 ∨ x = 1) ∧ k = some r := by
  unfold ckZ at h
  by_cases h1 : x = 0
  · rw [if_pos h1] at h; exact ⟨Or.inl h1, h⟩
  · rw [if_neg h1] at h
    by_cases h2 : x = 1
    · rw [if_pos h2] at h; exact ⟨Or.inr h2, h⟩
    · rw [if_neg h2] at h; cases h
theorem calP_in {β R : Type} {o : Option β} {K : β → Option R} {r : R} (h : calP o K = some r) : ∃ a, o = some a ∧ K a = some r := by
  unfold calP at h
  cases o with
  | none => cases h
  | some q => exact ⟨q, rfl, h⟩
theorem cal_in {β R : Type} {o : Option (β × St)} {K : β → St → Option R} {r : R} (h : cal o K = some r) : ∃ a σ, o = some (a, σ) ∧ K a σ = some r := by
  unfold cal at h
  cases o with
  | none => cases h
  | some q => exact ⟨q.1, q.2, rfl, h⟩
def lo1 {A0 R : Type} : Nat → ((A0 → Option R) → A0 → Option R) → A0 → Option R
  | 0, _, _ => none
  | n + 1, F, a0 => F (lo1 n F) a0
def lo2 {A0 A1 R : Type} : Nat → ((A0 → A1 → Option R) → A0 → A1 → Option R) → A0 → A1 → Option R
  | 0, _, _, _ => none
  | n + 1, F, a0, a1 => F (lo2 n F) a0 a1
def lo3 {A0 A1 A2 R : Type} : Nat → ((A0 → A1 → A2 → Option R) → A0 → A1 → A2 → Option R) → A0 → A1 → A2 → Option R
  | 0, _, _, _, _ => none
  | n + 1, F, a0, a1, a2 => F (lo3 n F) a0 a1 a2
def lo4 {A0 A1 A2 A3 R : Type} : Nat → ((A0 → A1 → A2 → A3 → Option R) → A0 → A1 → A2 → A3 → Option R) → A0 → A1 → A2 → A3 → Option R
  | 0, _, _, _, _, _ => none
  | n + 1, F, a0, a1, a2, a3 => F (lo4 n F) a0 a1 a2 a3
def lo5 {A0 A1 A2 A3 A4 R : Type} : Nat → ((A0 → A1 → A2 → A3 → A4 → Option R) → A0 → A1 → A2 → A3 → A4 → Option R) → A0 → A1 → A2 → A3 → A4 → Option R
  | 0, _, _, _, _, _, _ => none
  | n + 1, F, a0, a1, a2, a3, a4 => F (lo5 n F) a0 a1 a2 a3 a4
def lo6 {A0 A1 A2 A3 A4 A5 R : Type} : Nat → ((A0 → A1 → A2 → A3 → A4 → A5 → Option R) → A0 → A1 → A2 → A3 → A4 → A5 → Option R) → A0 → A1 → A2 → A3 → A4 → A5 → Option R
  | 0, _, _, _, _, _, _, _ => none
  | n + 1, F, a0, a1, a2, a3, a4, a5 => F (lo6 n F) a0 a1 a2 a3 a4 a5
def lo7 {A0 A1 A2 A3 A4 A5 A6 R : Type} : Nat → ((A0 → A1 → A2 → A3 → A4 → A5 → A6 → Option R) → A0 → A1 → A2 → A3 → A4 → A5 → A6 → Option R) → A0 → A1 → A2 → A3 → A4 → A5 → A6 → Option R
  | 0, _, _, _, _, _, _, _, _ => none
  | n + 1, F, a0, a1, a2, a3, a4, a5, a6 => F (lo7 n F) a0 a1 a2 a3 a4 a5 a6
def lo8 {A0 A1 A2 A3 A4 A5 A6 A7 R : Type} : Nat → ((A0 → A1 → A2 → A3 → A4 → A5 → A6 → A7 → Option R) → A0 → A1 → A2 → A3 → A4 → A5 → A6 → A7 → Option R) → A0 → A1 → A2 → A3 → A4 → A5 → A6 → A7 → Option R
  | 0, _, _, _, _, _, _, _, _, _ => none
  | n + 1, F, a0, a1, a2, a3, a4, a5, a6, a7 => F (lo8 n F) a0 a1 a2 a3 a4 a5 a6 a7
def jn0 {R : Type} (B : R → R) (K : R) : R := B K
def jn1 {A0 R : Type} (B : (A0 → R) → R) (K : A0 → R) : R := B K
def jn2 {A0 A1 R : Type} (B : (A0 → A1 → R) → R) (K : A0 → A1 → R) : R := B K
def jn3 {A0 A1 A2 R : Type} (B : (A0 → A1 → A2 → R) → R) (K : A0 → A1 → A2 → R) : R := B K
def jn4 {A0 A1 A2 A3 R : Type} (B : (A0 → A1 → A2 → A3 → R) → R) (K : A0 → A1 → A2 → A3 → R) : R := B K
def jn5 {A0 A1 A2 A3 A4 R : Type} (B : (A0 → A1 → A2 → A3 → A4 → R) → R) (K : A0 → A1 → A2 → A3 → A4 → R) : R := B K
section ROWS
variable {ρ : Type} {Q : ρ → State → Prop} {Γ : Gm} {Ξ : Gx} {E : Ev} {μ : Md} {σ : St} {pc : Nat} {lv : List (Nat × Value)} {st : List Value} {o oT oF : Option ρ}
theorem s_iconst {n : Int} {v : Int32} (hd : decode μ.2.1 pc = .ok (.iconst n, 1)) (hv : Int32.ofInt n = v) (k : Sim Q Γ Ξ E μ σ (pc + 1) lv (.int v :: st) o) : Sim Q Γ Ξ E μ σ pc lv (st) o := by
  intro C r ho ls H locs hl hP hS
  exact lv_iconst C.1 C.2.1 hd hv (k C r ho ls H locs hl hP hS)
theorem s_bipush {n : Int} {v : Int32} (hd : decode μ.2.1 pc = .ok (.bipush n, 2)) (hv : (Int8.ofInt n).toInt32 = v) (k : Sim Q Γ Ξ E μ σ (pc + 2) lv (.int v :: st) o) : Sim Q Γ Ξ E μ σ pc lv (st) o := by
  intro C r ho ls H locs hl hP hS
  exact lv_bipush C.1 C.2.1 hd hv (k C r ho ls H locs hl hP hS)
theorem s_sipush {n : Int} {v : Int32} (hd : decode μ.2.1 pc = .ok (.sipush n, 3)) (hv : (Int16.ofInt n).toInt32 = v) (k : Sim Q Γ Ξ E μ σ (pc + 3) lv (.int v :: st) o) : Sim Q Γ Ξ E μ σ pc lv (st) o := by
  intro C r ho ls H locs hl hP hS
  exact lv_sipush C.1 C.2.1 hd hv (k C r ho ls H locs hl hP hS)
theorem s_lconst {n : Fin 2} {v : Int64} (hd : decode μ.2.1 pc = .ok (.lconst n, 1)) (hv : Int64.ofNat (n : Nat) = v) (k : Sim Q Γ Ξ E μ σ (pc + 1) lv (.long v :: st) o) : Sim Q Γ Ξ E μ σ pc lv (st) o := by
  intro C r ho ls H locs hl hP hS
  exact lv_lconst C.1 C.2.1 hd hv (k C r ho ls H locs hl hP hS)
theorem s_iload_n {k : Fin 4} {i : Nat} {x : Int32} (hd : decode μ.2.1 pc = .ok (.iload_n k, 1)) (j : Nat) (hi : (k : Nat) = i) (hj : lv[j]? = some (i, .int x)) (k : Sim Q Γ Ξ E μ σ (pc + 1) lv (.int x :: st) o) : Sim Q Γ Ξ E μ σ pc lv st o := by
  intro C r ho ls H locs hl hP hS
  exact lv_iload_n C.1 C.2.1 hd hi (lv_at hl j hj) (k C r ho ls H locs hl hP hS)
theorem s_iload {i : Nat} {x : Int32} (hd : decode μ.2.1 pc = .ok (.iload i, 2)) (j : Nat) (hj : lv[j]? = some (i, .int x)) (k : Sim Q Γ Ξ E μ σ (pc + 2) lv (.int x :: st) o) : Sim Q Γ Ξ E μ σ pc lv st o := by
  intro C r ho ls H locs hl hP hS
  exact lv_iload C.1 C.2.1 hd (lv_at hl j hj) (k C r ho ls H locs hl hP hS)
theorem s_lload_n {k : Fin 4} {i : Nat} {x : Int64} (hd : decode μ.2.1 pc = .ok (.lload_n k, 1)) (j : Nat) (hi : (k : Nat) = i) (hj : lv[j]? = some (i, .long x)) (k : Sim Q Γ Ξ E μ σ (pc + 1) lv (.long x :: st) o) : Sim Q Γ Ξ E μ σ pc lv st o := by
  intro C r ho ls H locs hl hP hS
  exact lv_lload_n C.1 C.2.1 hd hi (lv_at hl j hj) (k C r ho ls H locs hl hP hS)
theorem s_lload {i : Nat} {x : Int64} (hd : decode μ.2.1 pc = .ok (.lload i, 2)) (j : Nat) (hj : lv[j]? = some (i, .long x)) (k : Sim Q Γ Ξ E μ σ (pc + 2) lv (.long x :: st) o) : Sim Q Γ Ξ E μ σ pc lv st o := by
  intro C r ho ls H locs hl hP hS
  exact lv_lload C.1 C.2.1 hd (lv_at hl j hj) (k C r ho ls H locs hl hP hS)
theorem s_aload_n {k : Fin 4} {i : Nat} {x : Nat} (hd : decode μ.2.1 pc = .ok (.aload_n k, 1)) (j : Nat) (hi : (k : Nat) = i) (hj : lv[j]? = some (i, .ref x)) (k : Sim Q Γ Ξ E μ σ (pc + 1) lv (.ref x :: st) o) : Sim Q Γ Ξ E μ σ pc lv st o := by
  intro C r ho ls H locs hl hP hS
  exact lv_aload_n C.1 C.2.1 hd hi (lv_at hl j hj) (k C r ho ls H locs hl hP hS)
theorem s_aload {i : Nat} {x : Nat} (hd : decode μ.2.1 pc = .ok (.aload i, 2)) (j : Nat) (hj : lv[j]? = some (i, .ref x)) (k : Sim Q Γ Ξ E μ σ (pc + 2) lv (.ref x :: st) o) : Sim Q Γ Ξ E μ σ pc lv st o := by
  intro C r ho ls H locs hl hP hS
  exact lv_aload C.1 C.2.1 hd (lv_at hl j hj) (k C r ho ls H locs hl hP hS)
theorem s_istore_n {k : Fin 4} {i : Nat} {x : Int32} (lv' : List (Nat × Value)) (hd : decode μ.2.1 pc = .ok (.istore_n k, 1)) (hi : (k : Nat) = i) (hn : i < μ.2.2.1) (hv : (i, Value.int x) :: lv.filter (fun q => !(q.1 == i) && !(q.1 + 1 == i && q.2.category == 2)) = lv') (k : Sim Q Γ Ξ E μ σ (pc + 1) lv' st o) : Sim Q Γ Ξ E μ σ pc lv (Value.int x :: st) o := by
  intro C r ho ls H locs hl hP hS
  exact lv_istore_n C.1 C.2.1 hd hi hl hn hv (fun ls hl => k C r ho ls H locs hl hP hS)
theorem s_istore_nB {k : Fin 4} {i : Nat} {x : Int32} {K : Int32 → Option ρ} (lvf : Int32 → List (Nat × Value)) (hd : decode μ.2.1 pc = .ok (.istore_n k, 1)) (hi : (k : Nat) = i) (hn : i < μ.2.2.1) (hv : ∀ x, (i, Value.int x) :: lv.filter (fun q => !(q.1 == i) && !(q.1 + 1 == i && q.2.category == 2)) = lvf x) (k : ∀ x, Sim Q Γ Ξ E μ σ (pc + 1) (lvf x) st (K x)) : Sim Q Γ Ξ E μ σ pc lv (Value.int x :: st) (bd x K) := by
  intro C r ho ls H locs hl hP hS
  exact lv_istore_n C.1 C.2.1 hd hi hl hn (hv x) (fun ls hl => k x C r ho ls H locs hl hP hS)
theorem s_istore {i : Nat} {x : Int32} (lv' : List (Nat × Value)) (hd : decode μ.2.1 pc = .ok (.istore i, 2)) (hn : i < μ.2.2.1) (hv : (i, Value.int x) :: lv.filter (fun q => !(q.1 == i) && !(q.1 + 1 == i && q.2.category == 2)) = lv') (k : Sim Q Γ Ξ E μ σ (pc + 2) lv' st o) : Sim Q Γ Ξ E μ σ pc lv (Value.int x :: st) o := by
  intro C r ho ls H locs hl hP hS
  exact lv_istore C.1 C.2.1 hd hl hn hv (fun ls hl => k C r ho ls H locs hl hP hS)
theorem s_istoreB {i : Nat} {x : Int32} {K : Int32 → Option ρ} (lvf : Int32 → List (Nat × Value)) (hd : decode μ.2.1 pc = .ok (.istore i, 2)) (hn : i < μ.2.2.1) (hv : ∀ x, (i, Value.int x) :: lv.filter (fun q => !(q.1 == i) && !(q.1 + 1 == i && q.2.category == 2)) = lvf x) (k : ∀ x, Sim Q Γ Ξ E μ σ (pc + 2) (lvf x) st (K x)) : Sim Q Γ Ξ E μ σ pc lv (Value.int x :: st) (bd x K) := by
  intro C r ho ls H locs hl hP hS
  exact lv_istore C.1 C.2.1 hd hl hn (hv x) (fun ls hl => k x C r ho ls H locs hl hP hS)
theorem s_lstore_n {k : Fin 4} {i : Nat} {x : Int64} (lv' : List (Nat × Value)) (hd : decode μ.2.1 pc = .ok (.lstore_n k, 1)) (hi : (k : Nat) = i) (hn : i + 1 < μ.2.2.1) (hv : (i, Value.long x) :: lv.filter (fun q => !(q.1 == i) && (!(q.1 == i + 1) && !(q.1 + 1 == i && q.2.category == 2))) = lv') (k : Sim Q Γ Ξ E μ σ (pc + 1) lv' st o) : Sim Q Γ Ξ E μ σ pc lv (Value.long x :: st) o := by
  intro C r ho ls H locs hl hP hS
  exact lv_lstore_n C.1 C.2.1 hd hi hl hn hv (fun ls hl => k C r ho ls H locs hl hP hS)
theorem s_lstore_nB {k : Fin 4} {i : Nat} {x : Int64} {K : Int64 → Option ρ} (lvf : Int64 → List (Nat × Value)) (hd : decode μ.2.1 pc = .ok (.lstore_n k, 1)) (hi : (k : Nat) = i) (hn : i + 1 < μ.2.2.1) (hv : ∀ x, (i, Value.long x) :: lv.filter (fun q => !(q.1 == i) && (!(q.1 == i + 1) && !(q.1 + 1 == i && q.2.category == 2))) = lvf x) (k : ∀ x, Sim Q Γ Ξ E μ σ (pc + 1) (lvf x) st (K x)) : Sim Q Γ Ξ E μ σ pc lv (Value.long x :: st) (bd x K) := by
  intro C r ho ls H locs hl hP hS
  exact lv_lstore_n C.1 C.2.1 hd hi hl hn (hv x) (fun ls hl => k x C r ho ls H locs hl hP hS)
theorem s_lstore {i : Nat} {x : Int64} (lv' : List (Nat × Value)) (hd : decode μ.2.1 pc = .ok (.lstore i, 2)) (hn : i + 1 < μ.2.2.1) (hv : (i, Value.long x) :: lv.filter (fun q => !(q.1 == i) && (!(q.1 == i + 1) && !(q.1 + 1 == i && q.2.category == 2))) = lv') (k : Sim Q Γ Ξ E μ σ (pc + 2) lv' st o) : Sim Q Γ Ξ E μ σ pc lv (Value.long x :: st) o := by
  intro C r ho ls H locs hl hP hS
  exact lv_lstore C.1 C.2.1 hd hl hn hv (fun ls hl => k C r ho ls H locs hl hP hS)
theorem s_lstoreB {i : Nat} {x : Int64} {K : Int64 → Option ρ} (lvf : Int64 → List (Nat × Value)) (hd : decode μ.2.1 pc = .ok (.lstore i, 2)) (hn : i + 1 < μ.2.2.1) (hv : ∀ x, (i, Value.long x) :: lv.filter (fun q => !(q.1 == i) && (!(q.1 == i + 1) && !(q.1 + 1 == i && q.2.category == 2))) = lvf x) (k : ∀ x, Sim Q Γ Ξ E μ σ (pc + 2) (lvf x) st (K x)) : Sim Q Γ Ξ E μ σ pc lv (Value.long x :: st) (bd x K) := by
  intro C r ho ls H locs hl hP hS
  exact lv_lstore C.1 C.2.1 hd hl hn (hv x) (fun ls hl => k x C r ho ls H locs hl hP hS)
theorem s_astore_n {k : Fin 4} {i : Nat} {x : Nat} (lv' : List (Nat × Value)) (hd : decode μ.2.1 pc = .ok (.astore_n k, 1)) (hi : (k : Nat) = i) (hn : i < μ.2.2.1) (hv : (i, Value.ref x) :: lv.filter (fun q => !(q.1 == i) && !(q.1 + 1 == i && q.2.category == 2)) = lv') (k : Sim Q Γ Ξ E μ σ (pc + 1) lv' st o) : Sim Q Γ Ξ E μ σ pc lv (Value.ref x :: st) o := by
  intro C r ho ls H locs hl hP hS
  exact lv_astore_n C.1 C.2.1 hd hi hl hn hv (fun ls hl => k C r ho ls H locs hl hP hS)
theorem s_astore {i : Nat} {x : Nat} (lv' : List (Nat × Value)) (hd : decode μ.2.1 pc = .ok (.astore i, 2)) (hn : i < μ.2.2.1) (hv : (i, Value.ref x) :: lv.filter (fun q => !(q.1 == i) && !(q.1 + 1 == i && q.2.category == 2)) = lv') (k : Sim Q Γ Ξ E μ σ (pc + 2) lv' st o) : Sim Q Γ Ξ E μ σ pc lv (Value.ref x :: st) o := by
  intro C r ho ls H locs hl hP hS
  exact lv_astore C.1 C.2.1 hd hl hn hv (fun ls hl => k C r ho ls H locs hl hP hS)
theorem s_iinc {i : Nat} {n : Int} {x v : Int32} (lv' : List (Nat × Value)) (hd : decode μ.2.1 pc = .ok (.iinc i n, 3)) (j : Nat) (hj : lv[j]? = some (i, .int x)) (hv : x + Int32.ofInt n = v) (hn : i < μ.2.2.1) (hl' : (i, Value.int v) :: lv.filter (fun q => !(q.1 == i) && !(q.1 + 1 == i && q.2.category == 2)) = lv') (k : Sim Q Γ Ξ E μ σ (pc + 3) lv' st o) : Sim Q Γ Ξ E μ σ pc lv st o := by
  intro C r ho ls H locs hl hP hS
  exact lv_iinc C.1 C.2.1 hd hl hj hv hn hl' (fun ls hl => k C r ho ls H locs hl hP hS)
theorem s_iadd {x y : Int32} (hd : decode μ.2.1 pc = .ok (.iadd, 1)) (k : Sim Q Γ Ξ E μ σ (pc + 1) lv (.int (x + y) :: st) o) : Sim Q Γ Ξ E μ σ pc lv (.int y :: .int x :: st) o := by
  intro C r ho ls H locs hl hP hS
  exact lv_iadd C.1 C.2.1 hd (k C r ho ls H locs hl hP hS)
theorem s_isub {x y : Int32} (hd : decode μ.2.1 pc = .ok (.isub, 1)) (k : Sim Q Γ Ξ E μ σ (pc + 1) lv (.int (x - y) :: st) o) : Sim Q Γ Ξ E μ σ pc lv (.int y :: .int x :: st) o := by
  intro C r ho ls H locs hl hP hS
  exact lv_isub C.1 C.2.1 hd (k C r ho ls H locs hl hP hS)
theorem s_imul {x y : Int32} (hd : decode μ.2.1 pc = .ok (.imul, 1)) (k : Sim Q Γ Ξ E μ σ (pc + 1) lv (.int (x * y) :: st) o) : Sim Q Γ Ξ E μ σ pc lv (.int y :: .int x :: st) o := by
  intro C r ho ls H locs hl hP hS
  exact lv_imul C.1 C.2.1 hd (k C r ho ls H locs hl hP hS)
theorem s_iand {x y : Int32} (hd : decode μ.2.1 pc = .ok (.iand, 1)) (k : Sim Q Γ Ξ E μ σ (pc + 1) lv (.int (x &&& y) :: st) o) : Sim Q Γ Ξ E μ σ pc lv (.int y :: .int x :: st) o := by
  intro C r ho ls H locs hl hP hS
  exact lv_iand C.1 C.2.1 hd (k C r ho ls H locs hl hP hS)
theorem s_ior {x y : Int32} (hd : decode μ.2.1 pc = .ok (.ior, 1)) (k : Sim Q Γ Ξ E μ σ (pc + 1) lv (.int (x ||| y) :: st) o) : Sim Q Γ Ξ E μ σ pc lv (.int y :: .int x :: st) o := by
  intro C r ho ls H locs hl hP hS
  exact lv_ior C.1 C.2.1 hd (k C r ho ls H locs hl hP hS)
theorem s_ixor {x y : Int32} (hd : decode μ.2.1 pc = .ok (.ixor, 1)) (k : Sim Q Γ Ξ E μ σ (pc + 1) lv (.int (x ^^^ y) :: st) o) : Sim Q Γ Ξ E μ σ pc lv (.int y :: .int x :: st) o := by
  intro C r ho ls H locs hl hP hS
  exact lv_ixor C.1 C.2.1 hd (k C r ho ls H locs hl hP hS)
theorem s_ishl {x y : Int32} (hd : decode μ.2.1 pc = .ok (.ishl, 1)) (k : Sim Q Γ Ξ E μ σ (pc + 1) lv (.int (x <<< (y &&& 31)) :: st) o) : Sim Q Γ Ξ E μ σ pc lv (.int y :: .int x :: st) o := by
  intro C r ho ls H locs hl hP hS
  exact lv_ishl C.1 C.2.1 hd (k C r ho ls H locs hl hP hS)
theorem s_ishr {x y : Int32} (hd : decode μ.2.1 pc = .ok (.ishr, 1)) (k : Sim Q Γ Ξ E μ σ (pc + 1) lv (.int (x >>> (y &&& 31)) :: st) o) : Sim Q Γ Ξ E μ σ pc lv (.int y :: .int x :: st) o := by
  intro C r ho ls H locs hl hP hS
  exact lv_ishr C.1 C.2.1 hd (k C r ho ls H locs hl hP hS)
theorem s_idiv {x y : Int32} (hd : decode μ.2.1 pc = .ok (.idiv, 1)) (hne : ¬ y = 0) (k : Sim Q Γ Ξ E μ σ (pc + 1) lv (.int (x / y) :: st) o) : Sim Q Γ Ξ E μ σ pc lv (.int y :: .int x :: st) o := by
  intro C r ho ls H locs hl hP hS
  exact lv_idiv C.1 C.2.1 hd hne (k C r ho ls H locs hl hP hS)
theorem s_irem {x y : Int32} (hd : decode μ.2.1 pc = .ok (.irem, 1)) (hne : ¬ y = 0) (k : Sim Q Γ Ξ E μ σ (pc + 1) lv (.int (x - x / y * y) :: st) o) : Sim Q Γ Ξ E μ σ pc lv (.int y :: .int x :: st) o := by
  intro C r ho ls H locs hl hP hS
  exact lv_irem C.1 C.2.1 hd hne (k C r ho ls H locs hl hP hS)
theorem s_iushr {x y v : Int32} (hd : decode μ.2.1 pc = .ok (.iushr, 1)) (hv : (x.toUInt32 >>> (y.toUInt32 &&& Int32.toUInt32 31)).toInt32 = v) (k : Sim Q Γ Ξ E μ σ (pc + 1) lv (.int v :: st) o) : Sim Q Γ Ξ E μ σ pc lv (.int y :: .int x :: st) o := by
  intro C r ho ls H locs hl hP hS
  exact lv_iushr C.1 C.2.1 hd hv (k C r ho ls H locs hl hP hS)
theorem s_ineg {x : Int32} (hd : decode μ.2.1 pc = .ok (.ineg, 1)) (k : Sim Q Γ Ξ E μ σ (pc + 1) lv (.int (-x) :: st) o) : Sim Q Γ Ξ E μ σ pc lv (.int x :: st) o := by
  intro C r ho ls H locs hl hP hS
  exact lv_ineg C.1 C.2.1 hd (k C r ho ls H locs hl hP hS)
theorem s_ladd {x y : Int64} (hd : decode μ.2.1 pc = .ok (.ladd, 1)) (k : Sim Q Γ Ξ E μ σ (pc + 1) lv (.long (x + y) :: st) o) : Sim Q Γ Ξ E μ σ pc lv (.long y :: .long x :: st) o := by
  intro C r ho ls H locs hl hP hS
  exact lv_ladd C.1 C.2.1 hd (k C r ho ls H locs hl hP hS)
theorem s_lsub {x y : Int64} (hd : decode μ.2.1 pc = .ok (.lsub, 1)) (k : Sim Q Γ Ξ E μ σ (pc + 1) lv (.long (x - y) :: st) o) : Sim Q Γ Ξ E μ σ pc lv (.long y :: .long x :: st) o := by
  intro C r ho ls H locs hl hP hS
  exact lv_lsub C.1 C.2.1 hd (k C r ho ls H locs hl hP hS)
theorem s_lmul {x y : Int64} (hd : decode μ.2.1 pc = .ok (.lmul, 1)) (k : Sim Q Γ Ξ E μ σ (pc + 1) lv (.long (x * y) :: st) o) : Sim Q Γ Ξ E μ σ pc lv (.long y :: .long x :: st) o := by
  intro C r ho ls H locs hl hP hS
  exact lv_lmul C.1 C.2.1 hd (k C r ho ls H locs hl hP hS)
theorem s_land {x y : Int64} (hd : decode μ.2.1 pc = .ok (.land, 1)) (k : Sim Q Γ Ξ E μ σ (pc + 1) lv (.long (x &&& y) :: st) o) : Sim Q Γ Ξ E μ σ pc lv (.long y :: .long x :: st) o := by
  intro C r ho ls H locs hl hP hS
  exact lv_land C.1 C.2.1 hd (k C r ho ls H locs hl hP hS)
theorem s_lor {x y : Int64} (hd : decode μ.2.1 pc = .ok (.lor, 1)) (k : Sim Q Γ Ξ E μ σ (pc + 1) lv (.long (x ||| y) :: st) o) : Sim Q Γ Ξ E μ σ pc lv (.long y :: .long x :: st) o := by
  intro C r ho ls H locs hl hP hS
  exact lv_lor C.1 C.2.1 hd (k C r ho ls H locs hl hP hS)
theorem s_lxor {x y : Int64} (hd : decode μ.2.1 pc = .ok (.lxor, 1)) (k : Sim Q Γ Ξ E μ σ (pc + 1) lv (.long (x ^^^ y) :: st) o) : Sim Q Γ Ξ E μ σ pc lv (.long y :: .long x :: st) o := by
  intro C r ho ls H locs hl hP hS
  exact lv_lxor C.1 C.2.1 hd (k C r ho ls H locs hl hP hS)
theorem s_lneg {x : Int64} (hd : decode μ.2.1 pc = .ok (.lneg, 1)) (k : Sim Q Γ Ξ E μ σ (pc + 1) lv (.long (-x) :: st) o) : Sim Q Γ Ξ E μ σ pc lv (.long x :: st) o := by
  intro C r ho ls H locs hl hP hS
  exact lv_lneg C.1 C.2.1 hd (k C r ho ls H locs hl hP hS)
theorem s_lushr {x v : Int64} {y : Int32} (hd : decode μ.2.1 pc = .ok (.lushr, 1)) (hv : (x.toUInt64 >>> (y.toInt64.toUInt64 &&& Int64.toUInt64 63)).toInt64 = v) (k : Sim Q Γ Ξ E μ σ (pc + 1) lv (.long v :: st) o) : Sim Q Γ Ξ E μ σ pc lv (.int y :: .long x :: st) o := by
  intro C r ho ls H locs hl hP hS
  exact lv_lushr C.1 C.2.1 hd hv (k C r ho ls H locs hl hP hS)
theorem s_lshl {x v : Int64} {y : Int32} (hd : decode μ.2.1 pc = .ok (.lshl, 1)) (hv : x <<< (y.toInt64 &&& 63) = v) (k : Sim Q Γ Ξ E μ σ (pc + 1) lv (.long v :: st) o) : Sim Q Γ Ξ E μ σ pc lv (.int y :: .long x :: st) o := by
  intro C r ho ls H locs hl hP hS
  exact lv_lshl C.1 C.2.1 hd hv (k C r ho ls H locs hl hP hS)
theorem s_lshr {x v : Int64} {y : Int32} (hd : decode μ.2.1 pc = .ok (.lshr, 1)) (hv : x >>> (y.toInt64 &&& 63) = v) (k : Sim Q Γ Ξ E μ σ (pc + 1) lv (.long v :: st) o) : Sim Q Γ Ξ E μ σ pc lv (.int y :: .long x :: st) o := by
  intro C r ho ls H locs hl hP hS
  exact lv_lshr C.1 C.2.1 hd hv (k C r ho ls H locs hl hP hS)
theorem s_i2l {x : Int32} {v : Int64} (hd : decode μ.2.1 pc = .ok (.i2l, 1)) (hv : x.toInt64 = v) (k : Sim Q Γ Ξ E μ σ (pc + 1) lv (.long v :: st) o) : Sim Q Γ Ξ E μ σ pc lv (.int x :: st) o := by
  intro C r ho ls H locs hl hP hS
  exact lv_i2l C.1 C.2.1 hd hv (k C r ho ls H locs hl hP hS)
theorem s_l2i {x : Int64} {v : Int32} (hd : decode μ.2.1 pc = .ok (.l2i, 1)) (hv : x.toInt32 = v) (k : Sim Q Γ Ξ E μ σ (pc + 1) lv (.int v :: st) o) : Sim Q Γ Ξ E μ σ pc lv (.long x :: st) o := by
  intro C r ho ls H locs hl hP hS
  exact lv_l2i C.1 C.2.1 hd hv (k C r ho ls H locs hl hP hS)
theorem s_lcmp {x y : Int64} (hd : decode μ.2.1 pc = .ok (.lcmp, 1)) (k : Sim Q Γ Ξ E μ σ (pc + 1) lv (.int (lg_cmp x y) :: st) o) : Sim Q Γ Ξ E μ σ pc lv (.long y :: .long x :: st) o := by
  intro C r ho ls H locs hl hP hS
  exact W.lcmp C.1 C.2.1 hd (k C r ho ls H locs hl hP hS)
theorem s_dup {va : Value} (hd : decode μ.2.1 pc = .ok (.dup, 1)) (hva : va.category = 1) (k : Sim Q Γ Ξ E μ σ (pc + 1) lv (va :: va :: st) o) : Sim Q Γ Ξ E μ σ pc lv (va :: st) o := by
  intro C r ho ls H locs hl hP hS
  exact lv_dup C.1 C.2.1 hd hva (k C r ho ls H locs hl hP hS)
theorem s_pop {va : Value} (hd : decode μ.2.1 pc = .ok (.pop, 1)) (hva : va.category = 1) (k : Sim Q Γ Ξ E μ σ (pc + 1) lv (st) o) : Sim Q Γ Ξ E μ σ pc lv (va :: st) o := by
  intro C r ho ls H locs hl hP hS
  exact lv_pop C.1 C.2.1 hd hva (k C r ho ls H locs hl hP hS)
theorem s_dup2 {va vb : Value} (hd : decode μ.2.1 pc = .ok (.dup2, 1)) (hva : va.category = 1) (hvb : vb.category = 1) (k : Sim Q Γ Ξ E μ σ (pc + 1) lv (va :: vb :: va :: vb :: st) o) : Sim Q Γ Ξ E μ σ pc lv (va :: vb :: st) o := by
  intro C r ho ls H locs hl hP hS
  exact lv_dup2_11 C.1 C.2.1 hd hva hvb (k C r ho ls H locs hl hP hS)
theorem s_goto {off : Int} (tgt : Nat) (hd : decode μ.2.1 pc = .ok (.goto off, 3)) (ht : (pc : Int) + off = (tgt : Int)) (k : Sim Q Γ Ξ E μ σ tgt lv st o) : Sim Q Γ Ξ E μ σ pc lv st o := by
  intro C r ho ls H locs hl hP hS
  exact lv_goto C.1 C.2.1 hd ht (k C r ho ls H locs hl hP hS)
theorem i_nle {x y : Int32} (h : ¬ x < y) : y ≤ x := by
  rw [Int32.lt_iff_toInt_lt] at h
  rw [Int32.le_iff_toInt_le]
  omega
theorem i_nlt {x y : Int32} (h : x ≤ y) : ¬ y < x := by
  rw [Int32.le_iff_toInt_le] at h
  rw [Int32.lt_iff_toInt_lt]
  omega
theorem fa_lt' (x y : Int32) : x < y ∨ y ≤ x := by
  by_cases h : x < y
  · exact Or.inl h
  · exact Or.inr (i_nle h)
theorem s_if_eq {x : Int32} {off : Int} (tgt : Nat) (hd : decode μ.2.1 pc = .ok (.ifCond .eq off, 3)) (ht : (pc : Int) + off = (tgt : Int)) (kT : Sim Q Γ Ξ E μ σ (tgt) lv st oT) (kF : Sim Q Γ Ξ E μ σ (pc + 3) lv st oF) : Sim Q Γ Ξ E μ σ pc lv (.int x :: st) (if x = 0 then oT else oF) := by
  intro C r ho ls H locs hl hP hS
  exact lv_if_eq C.1 C.2.1 hd ht (fun c => kT C r (by rw [if_pos c] at ho; exact ho) ls H locs hl hP hS) (fun c => kF C r (by rw [if_neg c] at ho; exact ho) ls H locs hl hP hS)
theorem s_if_ne {x : Int32} {off : Int} (tgt : Nat) (hd : decode μ.2.1 pc = .ok (.ifCond .ne off, 3)) (ht : (pc : Int) + off = (tgt : Int)) (kT : Sim Q Γ Ξ E μ σ (pc + 3) lv st oT) (kF : Sim Q Γ Ξ E μ σ (tgt) lv st oF) : Sim Q Γ Ξ E μ σ pc lv (.int x :: st) (if x = 0 then oT else oF) := by
  intro C r ho ls H locs hl hP hS
  exact lv_if_ne C.1 C.2.1 hd ht (fun c => kF C r (by rw [if_neg c] at ho; exact ho) ls H locs hl hP hS) (fun c => kT C r (by rw [if_pos c] at ho; exact ho) ls H locs hl hP hS)
theorem s_if_lt {x : Int32} {off : Int} (tgt : Nat) (hd : decode μ.2.1 pc = .ok (.ifCond .lt off, 3)) (ht : (pc : Int) + off = (tgt : Int)) (kT : Sim Q Γ Ξ E μ σ (tgt) lv st oT) (kF : Sim Q Γ Ξ E μ σ (pc + 3) lv st oF) : Sim Q Γ Ξ E μ σ pc lv (.int x :: st) (if x < 0 then oT else oF) := by
  intro C r ho ls H locs hl hP hS
  exact lv_if_lt C.1 C.2.1 hd ht (fun c => kT C r (by rw [if_pos c] at ho; exact ho) ls H locs hl hP hS) (fun c => kF C r (by rw [if_neg c] at ho; exact ho) ls H locs hl hP hS)
theorem s_if_ge {x : Int32} {off : Int} (tgt : Nat) (hd : decode μ.2.1 pc = .ok (.ifCond .ge off, 3)) (ht : (pc : Int) + off = (tgt : Int)) (kT : Sim Q Γ Ξ E μ σ (pc + 3) lv st oT) (kF : Sim Q Γ Ξ E μ σ (tgt) lv st oF) : Sim Q Γ Ξ E μ σ pc lv (.int x :: st) (if x < 0 then oT else oF) := by
  intro C r ho ls H locs hl hP hS
  exact lv_if_ge C.1 C.2.1 hd ht (fun c => kF C r (by rw [if_neg (i_nlt c)] at ho; exact ho) ls H locs hl hP hS) (fun c => kT C r (by rw [if_pos (by rcases fa_lt' x 0 with q | q; exact q; exact absurd q c)] at ho; exact ho) ls H locs hl hP hS)
theorem s_if_gt {x : Int32} {off : Int} (tgt : Nat) (hd : decode μ.2.1 pc = .ok (.ifCond .gt off, 3)) (ht : (pc : Int) + off = (tgt : Int)) (kT : Sim Q Γ Ξ E μ σ (tgt) lv st oT) (kF : Sim Q Γ Ξ E μ σ (pc + 3) lv st oF) : Sim Q Γ Ξ E μ σ pc lv (.int x :: st) (if 0 < x then oT else oF) := by
  intro C r ho ls H locs hl hP hS
  exact lv_if_gt C.1 C.2.1 hd ht (fun c => kT C r (by rw [if_pos c] at ho; exact ho) ls H locs hl hP hS) (fun c => kF C r (by rw [if_neg c] at ho; exact ho) ls H locs hl hP hS)
theorem s_if_le {x : Int32} {off : Int} (tgt : Nat) (hd : decode μ.2.1 pc = .ok (.ifCond .le off, 3)) (ht : (pc : Int) + off = (tgt : Int)) (kT : Sim Q Γ Ξ E μ σ (pc + 3) lv st oT) (kF : Sim Q Γ Ξ E μ σ (tgt) lv st oF) : Sim Q Γ Ξ E μ σ pc lv (.int x :: st) (if 0 < x then oT else oF) := by
  intro C r ho ls H locs hl hP hS
  exact lv_if_le C.1 C.2.1 hd ht (fun c => kF C r (by rw [if_neg (i_nlt c)] at ho; exact ho) ls H locs hl hP hS) (fun c => kT C r (by rw [if_pos (by rcases fa_lt' 0 x with q | q; exact q; exact absurd q c)] at ho; exact ho) ls H locs hl hP hS)
theorem s_icmp_eq {x y : Int32} {off : Int} (tgt : Nat) (hd : decode μ.2.1 pc = .ok (.if_icmp .eq off, 3)) (ht : (pc : Int) + off = (tgt : Int)) (kT : Sim Q Γ Ξ E μ σ (tgt) lv st oT) (kF : Sim Q Γ Ξ E μ σ (pc + 3) lv st oF) : Sim Q Γ Ξ E μ σ pc lv (.int y :: .int x :: st) (if x = y then oT else oF) := by
  intro C r ho ls H locs hl hP hS
  exact lv_icmp_eq C.1 C.2.1 hd ht (fun c => kT C r (by rw [if_pos c] at ho; exact ho) ls H locs hl hP hS) (fun c => kF C r (by rw [if_neg c] at ho; exact ho) ls H locs hl hP hS)
theorem s_icmp_ne {x y : Int32} {off : Int} (tgt : Nat) (hd : decode μ.2.1 pc = .ok (.if_icmp .ne off, 3)) (ht : (pc : Int) + off = (tgt : Int)) (kT : Sim Q Γ Ξ E μ σ (pc + 3) lv st oT) (kF : Sim Q Γ Ξ E μ σ (tgt) lv st oF) : Sim Q Γ Ξ E μ σ pc lv (.int y :: .int x :: st) (if x = y then oT else oF) := by
  intro C r ho ls H locs hl hP hS
  exact lv_icmp_ne C.1 C.2.1 hd ht (fun c => kF C r (by rw [if_neg c] at ho; exact ho) ls H locs hl hP hS) (fun c => kT C r (by rw [if_pos c] at ho; exact ho) ls H locs hl hP hS)
theorem s_icmp_lt {x y : Int32} {off : Int} (tgt : Nat) (hd : decode μ.2.1 pc = .ok (.if_icmp .lt off, 3)) (ht : (pc : Int) + off = (tgt : Int)) (kT : Sim Q Γ Ξ E μ σ (tgt) lv st oT) (kF : Sim Q Γ Ξ E μ σ (pc + 3) lv st oF) : Sim Q Γ Ξ E μ σ pc lv (.int y :: .int x :: st) (if x < y then oT else oF) := by
  intro C r ho ls H locs hl hP hS
  exact lv_icmp_lt C.1 C.2.1 hd ht (fun c => kT C r (by rw [if_pos c] at ho; exact ho) ls H locs hl hP hS) (fun c => kF C r (by rw [if_neg c] at ho; exact ho) ls H locs hl hP hS)
theorem s_icmp_ge {x y : Int32} {off : Int} (tgt : Nat) (hd : decode μ.2.1 pc = .ok (.if_icmp .ge off, 3)) (ht : (pc : Int) + off = (tgt : Int)) (kT : Sim Q Γ Ξ E μ σ (pc + 3) lv st oT) (kF : Sim Q Γ Ξ E μ σ (tgt) lv st oF) : Sim Q Γ Ξ E μ σ pc lv (.int y :: .int x :: st) (if x < y then oT else oF) := by
  intro C r ho ls H locs hl hP hS
  exact lv_icmp_ge C.1 C.2.1 hd ht (fun c => kF C r (by rw [if_neg (i_nlt c)] at ho; exact ho) ls H locs hl hP hS) (fun c => kT C r (by rw [if_pos (by rcases fa_lt' x y with q | q; exact q; exact absurd q c)] at ho; exact ho) ls H locs hl hP hS)
theorem s_icmp_gt {x y : Int32} {off : Int} (tgt : Nat) (hd : decode μ.2.1 pc = .ok (.if_icmp .gt off, 3)) (ht : (pc : Int) + off = (tgt : Int)) (kT : Sim Q Γ Ξ E μ σ (tgt) lv st oT) (kF : Sim Q Γ Ξ E μ σ (pc + 3) lv st oF) : Sim Q Γ Ξ E μ σ pc lv (.int y :: .int x :: st) (if y < x then oT else oF) := by
  intro C r ho ls H locs hl hP hS
  exact lv_icmp_gt C.1 C.2.1 hd ht (fun c => kT C r (by rw [if_pos c] at ho; exact ho) ls H locs hl hP hS) (fun c => kF C r (by rw [if_neg c] at ho; exact ho) ls H locs hl hP hS)
theorem s_icmp_le {x y : Int32} {off : Int} (tgt : Nat) (hd : decode μ.2.1 pc = .ok (.if_icmp .le off, 3)) (ht : (pc : Int) + off = (tgt : Int)) (kT : Sim Q Γ Ξ E μ σ (pc + 3) lv st oT) (kF : Sim Q Γ Ξ E μ σ (tgt) lv st oF) : Sim Q Γ Ξ E μ σ pc lv (.int y :: .int x :: st) (if y < x then oT else oF) := by
  intro C r ho ls H locs hl hP hS
  exact lv_icmp_le C.1 C.2.1 hd ht (fun c => kF C r (by rw [if_neg (i_nlt c)] at ho; exact ho) ls H locs hl hP hS) (fun c => kT C r (by rw [if_pos (by rcases fa_lt' y x with q | q; exact q; exact absurd q c)] at ho; exact ho) ls H locs hl hP hS)
theorem s_ldc {own : String} {index : Nat} {v : Int32} (hown : μ.1.cls = own) (hw : Cond.constant own index v ∈ tT) (hd : decode μ.2.1 pc = .ok (.ldc index, 2)) (k : Sim Q Γ Ξ E μ σ (pc + 2) lv (.int v :: st) o) : Sim Q Γ Ξ E μ σ pc lv st o := by
  intro C r ho ls H locs hl hP hS
  obtain ⟨hx, hb, hml, hr, hown', hts, hlocks, hK, ⟨hE, hA, hcc, hcs⟩, hKs⟩ := id C
  rw [hown] at hown'
  exact lv_ldc hx hb hown' (hts _ hw) hd (k C r ho ls H locs hl hP hS)
theorem s_ldcw {own : String} {index : Nat} {v : Int32} (hown : μ.1.cls = own) (hw : Cond.constant own index v ∈ tT) (hd : decode μ.2.1 pc = .ok (.ldc_w index, 3)) (k : Sim Q Γ Ξ E μ σ (pc + 3) lv (.int v :: st) o) : Sim Q Γ Ξ E μ σ pc lv st o := by
  intro C r ho ls H locs hl hP hS
  obtain ⟨hx, hb, hml, hr, hown', hts, hlocks, hK, ⟨hE, hA, hcc, hcs⟩, hKs⟩ := id C
  rw [hown] at hown'
  exact lv_ldcw hx hb hown' (hts _ hw) hd (k C r ho ls H locs hl hP hS)
theorem s_ldc2 {own : String} {index : Nat} {v : Int64} (hown : μ.1.cls = own) (hw : Cond.constantLong own index v ∈ tT) (hd : decode μ.2.1 pc = .ok (.ldc2_w index, 3)) (k : Sim Q Γ Ξ E μ σ (pc + 3) lv (.long v :: st) o) : Sim Q Γ Ξ E μ σ pc lv st o := by
  intro C r ho ls H locs hl hP hS
  obtain ⟨hx, hb, hml, hr, hown', hts, hlocks, hK, ⟨hE, hA, hcc, hcs⟩, hKs⟩ := id C
  rw [hown] at hown'
  exact lv_ldc2 hx hb hown' (hts _ hw) hd (k C r ho ls H locs hl hP hS)
/-- fields -/
def FL (own : String) (idx ci k : Nat) (fin : Bool) (ty : FieldType) : Prop := ∃ (C : String) (T : u_T) (N : Nat) (ty0 : Nat → FieldType), vwCl[ci]? = some (C, T, N) ∧ (∀ w ∈ u_ws C T N, w ∈ tT) ∧ (∀ j, j < N → parseFieldDescriptor (T j).2.2.1 = some (ty0 j)) ∧ (∀ a, a < N → ∀ b, b < N → a ≠ b → (T a).2.1 ≠ (T b).2.1) ∧ k < N ∧ Cond.fieldLink own idx (T k).1 (T k).2.1 (T k).2.2.1 ∈ tT ∧ (T k).2.2.2 = fin ∧ ty0 k = ty ∧ ci < 11
theorem s_get {own : String} {idx ci k t a : Nat} {fin : Bool} {ty : FieldType} (hF : FL own idx ci k fin ty) (hown : μ.1.cls = own) (hm : a ∈ E.2.2.2.1) (hkd : kd a = ci) (hft : ft a k = some t) (hd : decode μ.2.1 pc = .ok (.getfield idx, 3)) (kk : Sim Q Γ Ξ E μ σ (pc + 3) lv (fv E σ a t k :: st) o) : Sim Q Γ Ξ E μ σ pc lv (rV E a :: st) o := by
  intro Cc r ho ls H locs hl hP hS
  obtain ⟨hx, hb, hml, hr, hown', hts, hlocks, hK, ⟨hE, hA, hcc, hcs⟩, hKs⟩ := id Cc
  rw [hown] at hown'
  obtain ⟨C, T, N, ty0, h1, h2, h3, h4, h5, h6, h7, h8, h9⟩ := hF
  obtain ⟨q0, -, hq⟩ := ws_get σ hm
  rw [cont_o E σ hkd h9] at hq
  exact va_get (C := C) (T := T) (N := N) (ci := ci) hx hb hts h2 hown' hK hP q0 hq h1 k h5 (hts _ h6) (fun _ h => h) (flds_get E σ hft) hd (kk Cc r ho ls H locs hl hP hS)
theorem s_geti {own : String} {idx ci k a : Nat} {fin : Bool} {ty : FieldType} (hF : FL own idx ci k fin ty) (hown : μ.1.cls = own) (hm : a ∈ E.2.2.2.1) (hkd : kd a = ci) (hft : ft a k = some 0) (hd : decode μ.2.1 pc = .ok (.getfield idx, 3)) (kk : Sim Q Γ Ξ E μ σ (pc + 3) lv (.int (σ.1 a k) :: st) o) : Sim Q Γ Ξ E μ σ pc lv (rV E a :: st) o := s_get hF hown hm hkd hft hd kk
theorem s_getl {own : String} {idx ci k a : Nat} {fin : Bool} {ty : FieldType} (hF : FL own idx ci k fin ty) (hown : μ.1.cls = own) (hm : a ∈ E.2.2.2.1) (hkd : kd a = ci) (hft : ft a k = some 1) (hd : decode μ.2.1 pc = .ok (.getfield idx, 3)) (kk : Sim Q Γ Ξ E μ σ (pc + 3) lv (.long (σ.2 a k) :: st) o) : Sim Q Γ Ξ E μ σ pc lv (rV E a :: st) o := s_get hF hown hm hkd hft hd kk
theorem s_getr {own : String} {idx ci k a b : Nat} {fin : Bool} {ty : FieldType} (hF : FL own idx ci k fin ty) (hown : μ.1.cls = own) (hm : a ∈ E.2.2.2.1) (hkd : kd a = ci) (hft : ft a k = some 2) (hrr : E.2.2.2.2 a k = true) (hr : rf a k = b) (hd : decode μ.2.1 pc = .ok (.getfield idx, 3)) (kk : Sim Q Γ Ξ E μ σ (pc + 3) lv (rV E b :: st) o) : Sim Q Γ Ξ E μ σ pc lv (rV E a :: st) o := by
  subst hr
  exact s_get hF hown hm hkd hft hd (by simpa [fv, hrr] using kk)
/-- the one field that holds a Settings, by its number -/
theorem s_getS {own : String} {idx ci k a : Nat} {fin : Bool} {ty : FieldType} {K : Nat → Option ρ} (hF : FL own idx ci k fin ty) (hown : μ.1.cls = own) (hm : a ∈ E.2.2.2.1) (hkd : kd a = ci) (hft : ft a k = some 3) (hrr : E.2.2.2.2 a k = true) (hd : decode μ.2.1 pc = .ok (.getfield idx, 3)) (kk : ∀ j, j < 3 → Sim Q Γ Ξ E μ σ (pc + 3) lv (rV E (32 + 2 * j) :: st) (K j)) : Sim Q Γ Ξ E μ σ pc lv (rV E a :: st) (ckN (σ.1 a k).toNatClampNeg 3 (bd (σ.1 a k).toNatClampNeg K)) := by
  intro Cc r ho
  obtain ⟨h1, h2⟩ := ckN_in ho
  refine s_get hF hown hm hkd hft hd ?_ Cc r h2
  have := kk _ h1
  simpa [fv, hrr, bd, Nat.mod_eq_of_lt h1] using this
theorem s_put {own : String} {idx ci k t a : Nat} {ty : FieldType} {v : Value} {σ1 : St} (hF : FL own idx ci k false ty) (hown : μ.1.cls = own) (hm : a ∈ E.2.2.2.1) (hkd : kd a = ci) (hft : ft a k = some t) (hn : narrow ty v = v) (hfit : fits ty v = true) (hv : fv E σ1 a t k = v) (h1n : ∀ j, j ≠ k → σ1.1 a j = σ.1 a j ∧ σ1.2 a j = σ.2 a j) (h2n : ∀ b, b ≠ a → σ1.1 b = σ.1 b ∧ σ1.2 b = σ.2 b) (hd : decode μ.2.1 pc = .ok (.putfield idx, 3)) (kk : Sim Q Γ Ξ E μ σ1 (pc + 3) lv st o) : Sim Q Γ Ξ E μ σ pc lv (v :: rV E a :: st) o := by
  intro Cc r ho ls H locs hl hP hS
  obtain ⟨hx, hb, hml, hr, hown', hts, hlocks, hK, ⟨hE, hA, hcc, hcs⟩, hKs⟩ := id Cc
  rw [hown] at hown'
  obtain ⟨C, T, N, ty0, h1, h2, h3, h4, h5, h6, h7, h8, h9⟩ := hF
  obtain ⟨q0, hq0, hq⟩ := ws_get σ hm
  rw [cont_o E σ hkd h9] at hq
  refine va_put (C := C) (T := T) (N := N) (ci := ci) (ty := ty) hx hb hts h2 ty0 h3 h4 hown' hK hP (ws_D hE hA σ) hS q0 hq h1 k h5 (hts _ h6) (fun _ h => h) h7 (by rw [h3 k h5, h8]) hn hfit (flds_len E σ hft) hd (fun H1 locs1 hP1 _ hS1 => ?_)
  refine kk Cc r ho ls H1 locs1 hl ?_ hS1
  rw [← flds_set E hft hv h1n, ← cont_o E σ1 hkd h9, ws_set hE hq0 (fun b hb => cont_cg E (h2n b hb).1 (h2n b hb).2)] at hP1
  exact hP1
theorem s_puti {own : String} {idx ci k a : Nat} {x : Int32} {K : St → Option ρ} (hF : FL own idx ci k false .int) (hown : μ.1.cls = own) (hm : a ∈ E.2.2.2.1) (hkd : kd a = ci) (hft : ft a k = some 0) (hd : decode μ.2.1 pc = .ok (.putfield idx, 3)) (kk : ∀ σ1, Sim Q Γ Ξ E μ σ1 (pc + 3) lv st (K σ1)) : Sim Q Γ Ξ E μ σ pc lv (.int x :: rV E a :: st) (bd (setI σ a k x) K) :=
  s_put (σ1 := setI σ a k x) hF hown hm hkd hft rfl rfl (by show Value.int ((setI σ a k x).1 a k) = _; rw [setI_s]; simp [upd]) (fun j hj => ⟨by rw [setI_s]; simp [upd, hj], rfl⟩) (fun b hb => ⟨setI_n σ k x hb, rfl⟩) hd (kk _)
theorem s_putz {own : String} {idx ci k a : Nat} {x : Int32} {K : St → Option ρ} (hF : FL own idx ci k false .boolean) (hown : μ.1.cls = own) (hm : a ∈ E.2.2.2.1) (hkd : kd a = ci) (hft : ft a k = some 0) (hz : x = 0 ∨ x = 1) (hd : decode μ.2.1 pc = .ok (.putfield idx, 3)) (kk : ∀ σ1, Sim Q Γ Ξ E μ σ1 (pc + 3) lv st (K σ1)) : Sim Q Γ Ξ E μ σ pc lv (.int x :: rV E a :: st) (bd (setI σ a k x) K) :=
  s_put (σ1 := setI σ a k x) hF hown hm hkd hft (by rcases hz with rfl | rfl <;> rfl) (by rcases hz with rfl | rfl <;> rfl) (by show Value.int ((setI σ a k x).1 a k) = _; rw [setI_s]; simp [upd]) (fun j hj => ⟨by rw [setI_s]; simp [upd, hj], rfl⟩) (fun b hb => ⟨setI_n σ k x hb, rfl⟩) hd (kk _)
theorem s_putl {own : String} {idx ci k a : Nat} {x : Int64} {K : St → Option ρ} (hF : FL own idx ci k false .long) (hown : μ.1.cls = own) (hm : a ∈ E.2.2.2.1) (hkd : kd a = ci) (hft : ft a k = some 1) (hd : decode μ.2.1 pc = .ok (.putfield idx, 3)) (kk : ∀ σ1, Sim Q Γ Ξ E μ σ1 (pc + 3) lv st (K σ1)) : Sim Q Γ Ξ E μ σ pc lv (.long x :: rV E a :: st) (bd (setL σ a k x) K) :=
  s_put (σ1 := setL σ a k x) hF hown hm hkd hft rfl rfl (by show Value.long ((setL σ a k x).2 a k) = _; rw [setL_s]; simp [vp_updL]) (fun j hj => ⟨rfl, by rw [setL_s]; simp [vp_updL, hj]⟩) (fun b hb => ⟨rfl, setL_n σ k x hb⟩) hd (kk _)
theorem s_putS {own C : String} {idx ci k a j : Nat} {K : St → Option ρ} (hF : FL own idx ci k false (.object C)) (hown : μ.1.cls = own) (hm : a ∈ E.2.2.2.1) (hkd : kd a = ci) (hft : ft a k = some 3) (hrr : E.2.2.2.2 a k = true) (hj : j < 3) (hd : decode μ.2.1 pc = .ok (.putfield idx, 3)) (kk : ∀ σ1, Sim Q Γ Ξ E μ σ1 (pc + 3) lv st (K σ1)) : Sim Q Γ Ξ E μ σ pc lv (rV E (32 + 2 * j) :: rV E a :: st) (bd (setI σ a k (nI j)) K) :=
  s_put (σ1 := setI σ a k (nI j)) hF hown hm hkd hft rfl rfl (by simp only [fv, hrr]; rw [setI_s]; simp only [upd, if_true]; rw [nI_clamp (by omega), Nat.mod_eq_of_lt hj]; rfl) (fun j hj => ⟨by rw [setI_s]; simp [upd, hj], rfl⟩) (fun b hb => ⟨setI_n σ k _ hb, rfl⟩) hd (kk _)
/-- arrays -/
theorem s_iald {a n : Nat} {i : Int32} (hm : a ∈ E.2.2.2.1) (hkd : kd a = 11) (hn : ln a = n) (hd : decode μ.2.1 pc = .ok (.iaload, 1)) (kk : Sim Q Γ Ξ E μ σ (pc + 1) lv (.int (σ.1 a i.toNatClampNeg) :: st) o) : Sim Q Γ Ξ E μ σ pc lv (.int i :: rV E a :: st) (ck i n o) := by
  subst hn
  intro Cc r ho ls H locs hl hP hS
  obtain ⟨hi, ho2⟩ := ck_in ho
  obtain ⟨hx, hb, hml, hr, hown', hts, hlocks, hK, ⟨hE, hA, hcc, hcs⟩, hKs⟩ := id Cc
  obtain ⟨q0, hq0, hq⟩ := ws_get σ hm
  rw [cont_i E σ hkd] at hq
  exact va_iald hx hb hK hP q0 0 hq rfl hi hd (kk Cc r ho2 ls H locs hl hP hS)
theorem s_zald {a n : Nat} {i : Int32} (hm : a ∈ E.2.2.2.1) (hkd : kd a = 13) (hn : ln a = n) (hd : decode μ.2.1 pc = .ok (.baload, 1)) (kk : Sim Q Γ Ξ E μ σ (pc + 1) lv (.int (σ.1 a i.toNatClampNeg) :: st) o) : Sim Q Γ Ξ E μ σ pc lv (.int i :: rV E a :: st) (ck i n o) := by
  subst hn
  intro Cc r ho ls H locs hl hP hS
  obtain ⟨hi, ho2⟩ := ck_in ho
  obtain ⟨hx, hb, hml, hr, hown', hts, hlocks, hK, ⟨hE, hA, hcc, hcs⟩, hKs⟩ := id Cc
  obtain ⟨q0, hq0, hq⟩ := ws_get σ hm
  rw [cont_z E σ hkd] at hq
  exact va_zald hx hb hK hP q0 2 hq rfl hi hd (kk Cc r ho2 ls H locs hl hP hS)
theorem s_lald {a n : Nat} {i : Int32} (hm : a ∈ E.2.2.2.1) (hkd : kd a = 12) (hn : ln a = n) (hd : decode μ.2.1 pc = .ok (.laload, 1)) (kk : Sim Q Γ Ξ E μ σ (pc + 1) lv (.long (σ.2 a i.toNatClampNeg) :: st) o) : Sim Q Γ Ξ E μ σ pc lv (.int i :: rV E a :: st) (ck i n o) := by
  subst hn
  intro Cc r ho ls H locs hl hP hS
  obtain ⟨hi, ho2⟩ := ck_in ho
  obtain ⟨hx, hb, hml, hr, hown', hts, hlocks, hK, ⟨hE, hA, hcc, hcs⟩, hKs⟩ := id Cc
  obtain ⟨q0, hq0, hq⟩ := ws_get σ hm
  rw [cont_l E σ hkd] at hq
  exact va_lald hx hb hK hP q0 1 hq rfl hi hd (kk Cc r ho2 ls H locs hl hP hS)
theorem s_iast {a n : Nat} {i x : Int32} {K : St → Option ρ} (hm : a ∈ E.2.2.2.1) (hkd : kd a = 11) (hn : ln a = n) (hd : decode μ.2.1 pc = .ok (.iastore, 1)) (kk : ∀ σ1, Sim Q Γ Ξ E μ σ1 (pc + 1) lv st (K σ1)) : Sim Q Γ Ξ E μ σ pc lv (.int x :: .int i :: rV E a :: st) (ck i n (bd (setI σ a i.toNatClampNeg x) K)) := by
  subst hn
  intro Cc r ho ls H locs hl hP hS
  obtain ⟨hi, ho2⟩ := ck_in ho
  obtain ⟨hx, hb, hml, hr, hown', hts, hlocks, hK, ⟨hE, hA, hcc, hcs⟩, hKs⟩ := id Cc
  obtain ⟨q0, hq0, hq⟩ := ws_get σ hm
  rw [cont_i E σ hkd] at hq
  refine va_iast hx hb hK hP (ws_D hE hA σ) hS q0 0 hq rfl hi hd (fun H1 locs1 hP1 _ hS1 => ?_)
  refine kk _ Cc r ho2 ls H1 locs1 hl ?_ hS1
  rw [← setI_s, ← cont_i E (setI σ a i.toNatClampNeg x) hkd, ws_set hE hq0 (fun b hb => cont_cg E (setI_n σ _ _ hb) rfl)] at hP1
  exact hP1
theorem s_zast {a n : Nat} {i x : Int32} {K : St → Option ρ} (hm : a ∈ E.2.2.2.1) (hkd : kd a = 13) (hn : ln a = n) (hz : x = 0 ∨ x = 1) (hd : decode μ.2.1 pc = .ok (.bastore, 1)) (kk : ∀ σ1, Sim Q Γ Ξ E μ σ1 (pc + 1) lv st (K σ1)) : Sim Q Γ Ξ E μ σ pc lv (.int x :: .int i :: rV E a :: st) (ck i n (bd (setI σ a i.toNatClampNeg x) K)) := by
  subst hn
  intro Cc r ho ls H locs hl hP hS
  obtain ⟨hi, ho2⟩ := ck_in ho
  obtain ⟨hx, hb, hml, hr, hown', hts, hlocks, hK, ⟨hE, hA, hcc, hcs⟩, hKs⟩ := id Cc
  obtain ⟨q0, hq0, hq⟩ := ws_get σ hm
  rw [cont_z E σ hkd] at hq
  refine va_zast hx hb hK hP (ws_D hE hA σ) hS q0 2 hq rfl hi hd (fun H1 locs1 hP1 _ hS1 => ?_)
  refine kk _ Cc r ho2 ls H1 locs1 hl ?_ hS1
  rw [show vp_nar .boolean x = x by rcases hz with rfl | rfl <;> rfl, ← setI_s, ← cont_z E (setI σ a i.toNatClampNeg x) hkd, ws_set hE hq0 (fun b hb => cont_cg E (setI_n σ _ _ hb) rfl)] at hP1
  exact hP1
theorem s_last {a n : Nat} {i : Int32} {x : Int64} {K : St → Option ρ} (hm : a ∈ E.2.2.2.1) (hkd : kd a = 12) (hn : ln a = n) (hd : decode μ.2.1 pc = .ok (.lastore, 1)) (kk : ∀ σ1, Sim Q Γ Ξ E μ σ1 (pc + 1) lv st (K σ1)) : Sim Q Γ Ξ E μ σ pc lv (.long x :: .int i :: rV E a :: st) (ck i n (bd (setL σ a i.toNatClampNeg x) K)) := by
  subst hn
  intro Cc r ho ls H locs hl hP hS
  obtain ⟨hi, ho2⟩ := ck_in ho
  obtain ⟨hx, hb, hml, hr, hown', hts, hlocks, hK, ⟨hE, hA, hcc, hcs⟩, hKs⟩ := id Cc
  obtain ⟨q0, hq0, hq⟩ := ws_get σ hm
  rw [cont_l E σ hkd] at hq
  refine va_last hx hb hK hP (ws_D hE hA σ) hS q0 1 hq rfl hi hd (fun H1 locs1 hP1 _ hS1 => ?_)
  refine kk _ Cc r ho2 ls H1 locs1 hl ?_ hS1
  rw [← setL_s, ← cont_l E (setL σ a i.toNatClampNeg x) hkd, ws_set (σ := σ) (σ' := setL σ a i.toNatClampNeg x) hE hq0 (fun b hb => cont_cg E rfl (setL_n σ _ _ hb))] at hP1
  exact hP1
theorem s_aald {a n c : Nat} {i : Int32} {K : Nat → Option ρ} {C : String} (hm : a ∈ E.2.2.2.1) (hkd : kd a = c) (hc : 14 ≤ c) (t0 : Nat) (ht : (tys E)[t0]? = some (E.2.1 c, .object C)) (hn : ln a = n) (hrr : ∀ j, j < n → E.2.2.2.2 a j = true) (hd : decode μ.2.1 pc = .ok (.aaload, 1)) (kk : ∀ j, j < n → Sim Q Γ Ξ E μ σ (pc + 1) lv (rV E (rf a j) :: st) (K j)) : Sim Q Γ Ξ E μ σ pc lv (.int i :: rV E a :: st) (ck i n (bd i.toNatClampNeg K)) := by
  subst hn
  intro Cc r ho ls H locs hl hP hS
  obtain ⟨hi, ho2⟩ := ck_in ho
  obtain ⟨hx, hb, hml, hr, hown', hts, hlocks, hK, ⟨hE, hA, hcc, hcs⟩, hKs⟩ := id Cc
  obtain ⟨q0, hq0, hq⟩ := ws_get σ hm
  rw [cont_q E σ hkd hc] at hq
  have hj : i.toNatClampNeg < ln a := Nat.not_le.mp fun q => hi (Or.inr q)
  refine va_aldq hx hb hK hP q0 t0 hq ht hi hd ?_
  rw [hrr _ hj]
  exact kk _ hj Cc r ho2 ls H locs hl hP hS
theorem s_alen {a c : Nat} {n : Int32} (hm : a ∈ E.2.2.2.1) (hkd : kd a = c) (hc : 11 ≤ c) (hc2 : c ≤ 16) (hn : Int32.ofNat (ln a) = n) (hd : decode μ.2.1 pc = .ok (.arraylength, 1)) (kk : Sim Q Γ Ξ E μ σ (pc + 1) lv (.int n :: st) o) : Sim Q Γ Ξ E μ σ pc lv (rV E a :: st) o := by
  intro Cc r ho ls H locs hl hP hS
  obtain ⟨hx, hb, hml, hr, hown', hts, hlocks, hK, ⟨hE, hA, hcc, hcs⟩, hKs⟩ := id Cc
  obtain ⟨q0, hq0, hq⟩ := ws_get σ hm
  have hk := kk Cc r ho ls H locs hl hP hS
  rcases (show c = 11 ∨ c = 12 ∨ c = 13 ∨ c = 14 ∨ c = 15 ∨ c = 16 by omega) with e | e | e | e | e | e <;> subst e
  · rw [cont_i E σ hkd] at hq; exact va_alen hx hb hK hP q0 0 hq rfl hn hd hk
  · rw [cont_l E σ hkd] at hq; exact va_alen hx hb hK hP q0 1 hq rfl hn hd hk
  · rw [cont_z E σ hkd] at hq; exact va_alen hx hb hK hP q0 2 hq rfl hn hd hk
  · rw [cont_q E σ hkd (by omega)] at hq; exact va_alen hx hb hK hP q0 3 hq rfl hn hd hk
  · rw [cont_q E σ hkd (by omega)] at hq; exact va_alen hx hb hK hP q0 4 hq rfl hn hd hk
  · rw [cont_q E σ hkd (by omega)] at hq; exact va_alen hx hb hK hP q0 5 hq rfl hn hd hk
/-- ends -/
theorem s_ireturn {en : ρ → Option Value} {fs : ρ → St} {x : Int32} {y : ρ} (hr : μ.2.2.2.1 = some .int) (he : en y = some (.int x)) (hf : fs y = σ) (hd : decode μ.2.1 pc = .ok (.ireturn, 1)) : Sim (qM en fs Γ E) Γ (x0 E) E μ σ pc lv [.int x] (some y) := by
  intro Cc r ho ls H locs hl hP hS
  cases ho
  obtain ⟨hx, hb, hml, hr', hown', hts, hlocks, hK, ⟨hE, hA, hcc, hcs⟩, hKs⟩ := id Cc
  exact W.iret hx hb (hr'.trans hr) (fun t ht hW => ⟨⟨by rw [he], by rw [ht, hf]; exact hP⟩, hS.F ht⟩) hS.2.2 hd hlocks
theorem s_zreturn {en : ρ → Option Value} {fs : ρ → St} {x : Int32} {y : ρ} (hr : μ.2.2.2.1 = some .boolean) (hz : x = 0 ∨ x = 1) (he : en y = some (.int x)) (hf : fs y = σ) (hd : decode μ.2.1 pc = .ok (.ireturn, 1)) : Sim (qM en fs Γ E) Γ (x0 E) E μ σ pc lv [.int x] (some y) := by
  intro Cc r ho ls H locs hl hP hS
  cases ho
  obtain ⟨hx, hb, hml, hr', hown', hts, hlocks, hK, ⟨hE, hA, hcc, hcs⟩, hKs⟩ := id Cc
  exact W.zret hx hb (hr'.trans hr) (by rcases hz with rfl | rfl <;> rfl) (fun t ht hW => ⟨⟨by rw [he], by rw [ht, hf]; exact hP⟩, hS.F ht⟩) hS.2.2 hd hlocks
theorem s_lreturn {en : ρ → Option Value} {fs : ρ → St} {x : Int64} {y : ρ} (hr : μ.2.2.2.1 = some .long) (he : en y = some (.long x)) (hf : fs y = σ) (hd : decode μ.2.1 pc = .ok (.lreturn, 1)) : Sim (qM en fs Γ E) Γ (x0 E) E μ σ pc lv [.long x] (some y) := by
  intro Cc r ho ls H locs hl hP hS
  cases ho
  obtain ⟨hx, hb, hml, hr', hown', hts, hlocks, hK, ⟨hE, hA, hcc, hcs⟩, hKs⟩ := id Cc
  exact W.lret hx hb (hr'.trans hr) (fun t ht hW => ⟨⟨by rw [he], by rw [ht, hf]; exact hP⟩, hS.F ht⟩) hS.2.2 hd hlocks
theorem s_return {en : ρ → Option Value} {fs : ρ → St} {y : ρ} (hr : μ.2.2.2.1 = none) (he : en y = none) (hf : fs y = σ) (hd : decode μ.2.1 pc = .ok (.return_, 1)) : Sim (qM en fs Γ E) Γ (x0 E) E μ σ pc lv [] (some y) := by
  intro Cc r ho ls H locs hl hP hS
  cases ho
  obtain ⟨hx, hb, hml, hr', hown', hts, hlocks, hK, ⟨hE, hA, hcc, hcs⟩, hKs⟩ := id Cc
  exact W.vret hx hb (hr'.trans hr) (fun t ht hW => ⟨⟨by rw [he], by rw [ht, hf]; exact hP⟩, hS.F ht⟩) hS.2.2 hd hlocks
theorem s_areturn {en : ρ → Option Value} {fs : ρ → St} {a : Nat} {C : String} {y : ρ} (hr : μ.2.2.2.1 = some (.object C)) (he : en y = some (rV E a)) (hf : fs y = σ) (hd : decode μ.2.1 pc = .ok (.areturn, 1)) : Sim (qM en fs Γ E) Γ (x0 E) E μ σ pc lv [rV E a] (some y) := by
  intro Cc r ho ls H locs hl hP hS
  cases ho
  obtain ⟨hx, hb, hml, hr', hown', hts, hlocks, hK, ⟨hE, hA, hcc, hcs⟩, hKs⟩ := id Cc
  exact W.aret hx hb (hr'.trans hr) (Or.inl ⟨_, rfl⟩) (Or.inr ⟨_, rfl⟩) (fun t ht hW => ⟨⟨by rw [he], by rw [ht, hf]; exact hP⟩, hS.F ht⟩) hS.2.2 hd hlocks
/-- fewer locals, in another order -/
theorem s_sub {lv' : List (Nat × Value)} (ks : List Nat) (h : lv_pick lv ks = lv') (k : Sim Q Γ Ξ E μ σ pc lv' st o) : Sim Q Γ Ξ E μ σ pc lv st o :=
  fun C r ho ls H locs hl hP hS => k C r ho ls H locs (lv_sub hl ks h) hP hS
theorem s_eq {o' : Option ρ} (h : o = o') (k : Sim Q Γ Ξ E μ σ pc lv st o') : Sim Q Γ Ξ E μ σ pc lv st o := h ▸ k
theorem s_ckN {i n : Nat} (k : i < n → Sim Q Γ Ξ E μ σ pc lv st o) : Sim Q Γ Ξ E μ σ pc lv st (ckN i n o) := fun C r ho => k (ckN_in ho).1 C r (ckN_in ho).2
theorem s_ckZ {x : Int32} (k : (x = 0 ∨ x = 1) → Sim Q Γ Ξ E μ σ pc lv st o) : Sim Q Γ Ξ E μ σ pc lv st (ckZ x o) := fun C r ho => k (ckZ_in ho).1 C r (ckZ_in ho).2
/-- one value from several roads: e is told as the roads tell it -/
theorem s_bd {A : Type} {e : A} {K : A → Option ρ} (pj : Nat) (lvf : A → List (Nat × Value)) (stf : A → List Value) (B : (A → Option ρ) → Option ρ) (hB : ∀ k, k e = B k) (hK : ∀ a, Sim Q Γ Ξ E μ σ pj (lvf a) (stf a) (K a)) (h : ∀ k, (∀ a, Sim Q Γ Ξ E μ σ pj (lvf a) (stf a) (k a)) → Sim Q Γ Ξ E μ σ pc lv st (B k)) : Sim Q Γ Ξ E μ σ pc lv st (bd e K) :=
  s_eq (hB K) (h K hK)
theorem s_jn0 {B : Option ρ → Option ρ} {K : Option ρ} (σj : St) (pj : Nat) (lvj : List (Nat × Value)) (stj : List Value) (hK : Sim Q Γ Ξ E μ σj pj lvj stj K) (h : ∀ k, Sim Q Γ Ξ E μ σj pj lvj stj k → Sim Q Γ Ξ E μ σ pc lv st (B k)) : Sim Q Γ Ξ E μ σ pc lv st (jn0 B K) := h K hK
theorem s_jn1 {A0 : Type} {B : (A0 → Option ρ) → Option ρ} {K : A0 → Option ρ} (pj : Nat) (σf : A0 → St) (lvf : A0 → List (Nat × Value)) (stf : A0 → List Value) (hK : ∀ a0, Sim Q Γ Ξ E μ (σf a0) pj (lvf a0) (stf a0) (K a0)) (h : ∀ k, (∀ a0, Sim Q Γ Ξ E μ (σf a0) pj (lvf a0) (stf a0) (k a0)) → Sim Q Γ Ξ E μ σ pc lv st (B k)) : Sim Q Γ Ξ E μ σ pc lv st (jn1 B K) := h K hK
theorem s_jn2 {A0 A1 : Type} {B : (A0 → A1 → Option ρ) → Option ρ} {K : A0 → A1 → Option ρ} (pj : Nat) (σf : A0 → A1 → St) (lvf : A0 → A1 → List (Nat × Value)) (stf : A0 → A1 → List Value) (hK : ∀ a0 a1, Sim Q Γ Ξ E μ (σf a0 a1) pj (lvf a0 a1) (stf a0 a1) (K a0 a1)) (h : ∀ k, (∀ a0 a1, Sim Q Γ Ξ E μ (σf a0 a1) pj (lvf a0 a1) (stf a0 a1) (k a0 a1)) → Sim Q Γ Ξ E μ σ pc lv st (B k)) : Sim Q Γ Ξ E μ σ pc lv st (jn2 B K) := h K hK
theorem s_jn3 {A0 A1 A2 : Type} {B : (A0 → A1 → A2 → Option ρ) → Option ρ} {K : A0 → A1 → A2 → Option ρ} (pj : Nat) (σf : A0 → A1 → A2 → St) (lvf : A0 → A1 → A2 → List (Nat × Value)) (stf : A0 → A1 → A2 → List Value) (hK : ∀ a0 a1 a2, Sim Q Γ Ξ E μ (σf a0 a1 a2) pj (lvf a0 a1 a2) (stf a0 a1 a2) (K a0 a1 a2)) (h : ∀ k, (∀ a0 a1 a2, Sim Q Γ Ξ E μ (σf a0 a1 a2) pj (lvf a0 a1 a2) (stf a0 a1 a2) (k a0 a1 a2)) → Sim Q Γ Ξ E μ σ pc lv st (B k)) : Sim Q Γ Ξ E μ σ pc lv st (jn3 B K) := h K hK
theorem s_jn4 {A0 A1 A2 A3 : Type} {B : (A0 → A1 → A2 → A3 → Option ρ) → Option ρ} {K : A0 → A1 → A2 → A3 → Option ρ} (pj : Nat) (σf : A0 → A1 → A2 → A3 → St) (lvf : A0 → A1 → A2 → A3 → List (Nat × Value)) (stf : A0 → A1 → A2 → A3 → List Value) (hK : ∀ a0 a1 a2 a3, Sim Q Γ Ξ E μ (σf a0 a1 a2 a3) pj (lvf a0 a1 a2 a3) (stf a0 a1 a2 a3) (K a0 a1 a2 a3)) (h : ∀ k, (∀ a0 a1 a2 a3, Sim Q Γ Ξ E μ (σf a0 a1 a2 a3) pj (lvf a0 a1 a2 a3) (stf a0 a1 a2 a3) (k a0 a1 a2 a3)) → Sim Q Γ Ξ E μ σ pc lv st (B k)) : Sim Q Γ Ξ E μ σ pc lv st (jn4 B K) := h K hK
theorem s_jn5 {A0 A1 A2 A3 A4 : Type} {B : (A0 → A1 → A2 → A3 → A4 → Option ρ) → Option ρ} {K : A0 → A1 → A2 → A3 → A4 → Option ρ} (pj : Nat) (σf : A0 → A1 → A2 → A3 → A4 → St) (lvf : A0 → A1 → A2 → A3 → A4 → List (Nat × Value)) (stf : A0 → A1 → A2 → A3 → A4 → List Value) (hK : ∀ a0 a1 a2 a3 a4, Sim Q Γ Ξ E μ (σf a0 a1 a2 a3 a4) pj (lvf a0 a1 a2 a3 a4) (stf a0 a1 a2 a3 a4) (K a0 a1 a2 a3 a4)) (h : ∀ k, (∀ a0 a1 a2 a3 a4, Sim Q Γ Ξ E μ (σf a0 a1 a2 a3 a4) pj (lvf a0 a1 a2 a3 a4) (stf a0 a1 a2 a3 a4) (k a0 a1 a2 a3 a4)) → Sim Q Γ Ξ E μ σ pc lv st (B k)) : Sim Q Γ Ξ E μ σ pc lv st (jn5 B K) := h K hK
theorem s_lo1 {A0 : Type} {F : (A0 → Option ρ) → A0 → Option ρ} {N : Nat} {b0 : A0} (σf : A0 → St) (lvf : A0 → List (Nat × Value)) (h : ∀ rec, (∀ a0, Sim Q Γ Ξ E μ (σf a0) pc (lvf a0) [] (rec a0)) → ∀ a0, Sim Q Γ Ξ E μ (σf a0) pc (lvf a0) [] (F rec a0)) : Sim Q Γ Ξ E μ (σf b0) pc (lvf b0) [] (lo1 N F b0) := by
  have key : ∀ N a0, Sim Q Γ Ξ E μ (σf a0) pc (lvf a0) [] (lo1 N F a0) := by
    intro N
    induction N with
    | zero => intro a0 C r ho; cases ho
    | succ N ih => intro a0; exact h (lo1 N F) ih a0
  exact key N b0
theorem s_lo2 {A0 A1 : Type} {F : (A0 → A1 → Option ρ) → A0 → A1 → Option ρ} {N : Nat} {b0 : A0} {b1 : A1} (σf : A0 → A1 → St) (lvf : A0 → A1 → List (Nat × Value)) (h : ∀ rec, (∀ a0 a1, Sim Q Γ Ξ E μ (σf a0 a1) pc (lvf a0 a1) [] (rec a0 a1)) → ∀ a0 a1, Sim Q Γ Ξ E μ (σf a0 a1) pc (lvf a0 a1) [] (F rec a0 a1)) : Sim Q Γ Ξ E μ (σf b0 b1) pc (lvf b0 b1) [] (lo2 N F b0 b1) := by
  have key : ∀ N a0 a1, Sim Q Γ Ξ E μ (σf a0 a1) pc (lvf a0 a1) [] (lo2 N F a0 a1) := by
    intro N
    induction N with
    | zero => intro a0 a1 C r ho; cases ho
    | succ N ih => intro a0 a1; exact h (lo2 N F) ih a0 a1
  exact key N b0 b1
theorem s_lo3 {A0 A1 A2 : Type} {F : (A0 → A1 → A2 → Option ρ) → A0 → A1 → A2 → Option ρ} {N : Nat} {b0 : A0} {b1 : A1} {b2 : A2} (σf : A0 → A1 → A2 → St) (lvf : A0 → A1 → A2 → List (Nat × Value)) (h : ∀ rec, (∀ a0 a1 a2, Sim Q Γ Ξ E μ (σf a0 a1 a2) pc (lvf a0 a1 a2) [] (rec a0 a1 a2)) → ∀ a0 a1 a2, Sim Q Γ Ξ E μ (σf a0 a1 a2) pc (lvf a0 a1 a2) [] (F rec a0 a1 a2)) : Sim Q Γ Ξ E μ (σf b0 b1 b2) pc (lvf b0 b1 b2) [] (lo3 N F b0 b1 b2) := by
  have key : ∀ N a0 a1 a2, Sim Q Γ Ξ E μ (σf a0 a1 a2) pc (lvf a0 a1 a2) [] (lo3 N F a0 a1 a2) := by
    intro N
    induction N with
    | zero => intro a0 a1 a2 C r ho; cases ho
    | succ N ih => intro a0 a1 a2; exact h (lo3 N F) ih a0 a1 a2
  exact key N b0 b1 b2
theorem s_lo4 {A0 A1 A2 A3 : Type} {F : (A0 → A1 → A2 → A3 → Option ρ) → A0 → A1 → A2 → A3 → Option ρ} {N : Nat} {b0 : A0} {b1 : A1} {b2 : A2} {b3 : A3} (σf : A0 → A1 → A2 → A3 → St) (lvf : A0 → A1 → A2 → A3 → List (Nat × Value)) (h : ∀ rec, (∀ a0 a1 a2 a3, Sim Q Γ Ξ E μ (σf a0 a1 a2 a3) pc (lvf a0 a1 a2 a3) [] (rec a0 a1 a2 a3)) → ∀ a0 a1 a2 a3, Sim Q Γ Ξ E μ (σf a0 a1 a2 a3) pc (lvf a0 a1 a2 a3) [] (F rec a0 a1 a2 a3)) : Sim Q Γ Ξ E μ (σf b0 b1 b2 b3) pc (lvf b0 b1 b2 b3) [] (lo4 N F b0 b1 b2 b3) := by
  have key : ∀ N a0 a1 a2 a3, Sim Q Γ Ξ E μ (σf a0 a1 a2 a3) pc (lvf a0 a1 a2 a3) [] (lo4 N F a0 a1 a2 a3) := by
    intro N
    induction N with
    | zero => intro a0 a1 a2 a3 C r ho; cases ho
    | succ N ih => intro a0 a1 a2 a3; exact h (lo4 N F) ih a0 a1 a2 a3
  exact key N b0 b1 b2 b3
theorem s_lo5 {A0 A1 A2 A3 A4 : Type} {F : (A0 → A1 → A2 → A3 → A4 → Option ρ) → A0 → A1 → A2 → A3 → A4 → Option ρ} {N : Nat} {b0 : A0} {b1 : A1} {b2 : A2} {b3 : A3} {b4 : A4} (σf : A0 → A1 → A2 → A3 → A4 → St) (lvf : A0 → A1 → A2 → A3 → A4 → List (Nat × Value)) (h : ∀ rec, (∀ a0 a1 a2 a3 a4, Sim Q Γ Ξ E μ (σf a0 a1 a2 a3 a4) pc (lvf a0 a1 a2 a3 a4) [] (rec a0 a1 a2 a3 a4)) → ∀ a0 a1 a2 a3 a4, Sim Q Γ Ξ E μ (σf a0 a1 a2 a3 a4) pc (lvf a0 a1 a2 a3 a4) [] (F rec a0 a1 a2 a3 a4)) : Sim Q Γ Ξ E μ (σf b0 b1 b2 b3 b4) pc (lvf b0 b1 b2 b3 b4) [] (lo5 N F b0 b1 b2 b3 b4) := by
  have key : ∀ N a0 a1 a2 a3 a4, Sim Q Γ Ξ E μ (σf a0 a1 a2 a3 a4) pc (lvf a0 a1 a2 a3 a4) [] (lo5 N F a0 a1 a2 a3 a4) := by
    intro N
    induction N with
    | zero => intro a0 a1 a2 a3 a4 C r ho; cases ho
    | succ N ih => intro a0 a1 a2 a3 a4; exact h (lo5 N F) ih a0 a1 a2 a3 a4
  exact key N b0 b1 b2 b3 b4
theorem s_lo6 {A0 A1 A2 A3 A4 A5 : Type} {F : (A0 → A1 → A2 → A3 → A4 → A5 → Option ρ) → A0 → A1 → A2 → A3 → A4 → A5 → Option ρ} {N : Nat} {b0 : A0} {b1 : A1} {b2 : A2} {b3 : A3} {b4 : A4} {b5 : A5} (σf : A0 → A1 → A2 → A3 → A4 → A5 → St) (lvf : A0 → A1 → A2 → A3 → A4 → A5 → List (Nat × Value)) (h : ∀ rec, (∀ a0 a1 a2 a3 a4 a5, Sim Q Γ Ξ E μ (σf a0 a1 a2 a3 a4 a5) pc (lvf a0 a1 a2 a3 a4 a5) [] (rec a0 a1 a2 a3 a4 a5)) → ∀ a0 a1 a2 a3 a4 a5, Sim Q Γ Ξ E μ (σf a0 a1 a2 a3 a4 a5) pc (lvf a0 a1 a2 a3 a4 a5) [] (F rec a0 a1 a2 a3 a4 a5)) : Sim Q Γ Ξ E μ (σf b0 b1 b2 b3 b4 b5) pc (lvf b0 b1 b2 b3 b4 b5) [] (lo6 N F b0 b1 b2 b3 b4 b5) := by
  have key : ∀ N a0 a1 a2 a3 a4 a5, Sim Q Γ Ξ E μ (σf a0 a1 a2 a3 a4 a5) pc (lvf a0 a1 a2 a3 a4 a5) [] (lo6 N F a0 a1 a2 a3 a4 a5) := by
    intro N
    induction N with
    | zero => intro a0 a1 a2 a3 a4 a5 C r ho; cases ho
    | succ N ih => intro a0 a1 a2 a3 a4 a5; exact h (lo6 N F) ih a0 a1 a2 a3 a4 a5
  exact key N b0 b1 b2 b3 b4 b5
theorem s_lo7 {A0 A1 A2 A3 A4 A5 A6 : Type} {F : (A0 → A1 → A2 → A3 → A4 → A5 → A6 → Option ρ) → A0 → A1 → A2 → A3 → A4 → A5 → A6 → Option ρ} {N : Nat} {b0 : A0} {b1 : A1} {b2 : A2} {b3 : A3} {b4 : A4} {b5 : A5} {b6 : A6} (σf : A0 → A1 → A2 → A3 → A4 → A5 → A6 → St) (lvf : A0 → A1 → A2 → A3 → A4 → A5 → A6 → List (Nat × Value)) (h : ∀ rec, (∀ a0 a1 a2 a3 a4 a5 a6, Sim Q Γ Ξ E μ (σf a0 a1 a2 a3 a4 a5 a6) pc (lvf a0 a1 a2 a3 a4 a5 a6) [] (rec a0 a1 a2 a3 a4 a5 a6)) → ∀ a0 a1 a2 a3 a4 a5 a6, Sim Q Γ Ξ E μ (σf a0 a1 a2 a3 a4 a5 a6) pc (lvf a0 a1 a2 a3 a4 a5 a6) [] (F rec a0 a1 a2 a3 a4 a5 a6)) : Sim Q Γ Ξ E μ (σf b0 b1 b2 b3 b4 b5 b6) pc (lvf b0 b1 b2 b3 b4 b5 b6) [] (lo7 N F b0 b1 b2 b3 b4 b5 b6) := by
  have key : ∀ N a0 a1 a2 a3 a4 a5 a6, Sim Q Γ Ξ E μ (σf a0 a1 a2 a3 a4 a5 a6) pc (lvf a0 a1 a2 a3 a4 a5 a6) [] (lo7 N F a0 a1 a2 a3 a4 a5 a6) := by
    intro N
    induction N with
    | zero => intro a0 a1 a2 a3 a4 a5 a6 C r ho; cases ho
    | succ N ih => intro a0 a1 a2 a3 a4 a5 a6; exact h (lo7 N F) ih a0 a1 a2 a3 a4 a5 a6
  exact key N b0 b1 b2 b3 b4 b5 b6
theorem s_lo8 {A0 A1 A2 A3 A4 A5 A6 A7 : Type} {F : (A0 → A1 → A2 → A3 → A4 → A5 → A6 → A7 → Option ρ) → A0 → A1 → A2 → A3 → A4 → A5 → A6 → A7 → Option ρ} {N : Nat} {b0 : A0} {b1 : A1} {b2 : A2} {b3 : A3} {b4 : A4} {b5 : A5} {b6 : A6} {b7 : A7} (σf : A0 → A1 → A2 → A3 → A4 → A5 → A6 → A7 → St) (lvf : A0 → A1 → A2 → A3 → A4 → A5 → A6 → A7 → List (Nat × Value)) (h : ∀ rec, (∀ a0 a1 a2 a3 a4 a5 a6 a7, Sim Q Γ Ξ E μ (σf a0 a1 a2 a3 a4 a5 a6 a7) pc (lvf a0 a1 a2 a3 a4 a5 a6 a7) [] (rec a0 a1 a2 a3 a4 a5 a6 a7)) → ∀ a0 a1 a2 a3 a4 a5 a6 a7, Sim Q Γ Ξ E μ (σf a0 a1 a2 a3 a4 a5 a6 a7) pc (lvf a0 a1 a2 a3 a4 a5 a6 a7) [] (F rec a0 a1 a2 a3 a4 a5 a6 a7)) : Sim Q Γ Ξ E μ (σf b0 b1 b2 b3 b4 b5 b6 b7) pc (lvf b0 b1 b2 b3 b4 b5 b6 b7) [] (lo8 N F b0 b1 b2 b3 b4 b5 b6 b7) := by
  have key : ∀ N a0 a1 a2 a3 a4 a5 a6 a7, Sim Q Γ Ξ E μ (σf a0 a1 a2 a3 a4 a5 a6 a7) pc (lvf a0 a1 a2 a3 a4 a5 a6 a7) [] (lo8 N F a0 a1 a2 a3 a4 a5 a6 a7) := by
    intro N
    induction N with
    | zero => intro a0 a1 a2 a3 a4 a5 a6 a7 C r ho; cases ho
    | succ N ih => intro a0 a1 a2 a3 a4 a5 a6 a7; exact h (lo8 N F) ih a0 a1 a2 a3 a4 a5 a6 a7
  exact key N b0 b1 b2 b3 b4 b5 b6 b7
end ROWS
/-- calls -/
theorem PcE_blind (E : Ev) (As : List Value) (σ : St) : FrameBlind (PcE E As σ) := fun a U g mk q => by
  obtain ⟨q0, qP, qK, qs⟩ := q
  exact ⟨q0, qP, va_K.moved (u := U) (U := U.calling g mk a) (Vm.Alike.refl U.vm) qK, Kt.same (u := U) (U := U.calling g mk a) rfl qs⟩
section CALLS
variable {p : Program} {l : Launch} {e : Env} {R : Room} {s : State} {m : MethodId} {args : Array Value} {below : List Frame} {meth : Method} {c : Code} {H : Heap} {locs : List Loc} {cells slots : Nat} {Q : State → Prop}
variable {pc : Nat} {ls : Array Slot} {rest st0 : List Value} {a : Array Value} {A0 : Nat → Prop} {H0 : Heap} {E : Ev} {rv : Option Value} {σ' : St}
theorem sv_call (hr : va_Run p l e R s m args below meth c H locs cells slots 0 0 (F0 m pc ls st0) rest (Qm E rv σ' a) (AL E)) (hS : va_S A0 H0 H locs) (hA : ∀ q, AL E q → A0 q)
    (kk : ∀ (H1 : Heap) (locs1 : List Loc), va_P E.1 vwCl (WS E σ') H1 → H.size ≤ H1.size → (∀ q : Nat, q < H.size → ¬ AL E q → H1[q]? = H[q]?) → va_S A0 H0 H1 locs1 → W p l e R s m args below meth c H1 locs1 cells slots Q (F0 m (pc + 3) ls (rv.toList ++ rest))) : W p l e R s m args below meth c H locs cells slots Q (F0 m pc ls st0) := by
  intro T hT X
  obtain ⟨v, st₀, t, T', L, h0, X', hL, e1, e2, ⟨⟨hv, hb⟩, hz, hk⟩, st⟩ := hr T hT X
  cases hv
  rw [h0] at hz hk
  obtain ⟨t2, a1, b1⟩ := kk T'.heap (locs ++ L) (by rw [e1]; exact hb) (by rw [e1]; exact hz) (fun q h1 h2 => by rw [e1]; exact hk q h1 h2)
    ⟨Nat.le_trans hS.1 (by rw [e1]; exact hz), fun q h1 h2 => by rw [e1, hk q (Nat.lt_of_lt_of_le h1 hS.1) (fun z => h2 (hA q z))]; exact hS.2.1 q h1 h2, fun q hq => by
      rcases List.mem_append.mp hq with h | h
      · exact hS.2.2 q h
      · exact hA _ (hL q h)⟩ T' rfl X'
  exact ⟨t2, st t2 a1, b1⟩
end CALLS
/-- what a call needs to know of the method called -/
def MF (μ : Md) (np : Nat) : Prop := μ.1.cls ≠ "java/lang/invoke/MethodHandle" ∧ μ.1.cls ≠ "java/lang/invoke/VarHandle" ∧ (parseMethodDescriptor μ.1.desc).map (fun d => d.parameters.length) = some np ∧ Cond.code μ.1 μ.2.1 μ.2.2.1 μ.2.2.2.1 ∈ tT ∧ Cond.initialized μ.1.cls ∈ tT ∧ μ.2.2.2.2.cells = 0 ∧ μ.2.2.2.2.slots = 0
def VF (μ : Md) : Prop := Cond.instanceMethod μ.1 ∈ tT ∧ Cond.selects μ.1.cls μ.1 μ.1 ∈ tT
/-- room: the callee's beside the caller's -/
def rOk (R r : Room) (n : Nat) : Bool := (r.frames + 1).ble R.frames && (8 + (n + 11) + r.locals).ble R.locals
theorem rOk_1 {R r : Room} {n : Nat} (h : rOk R r n = true) : r.frames + 1 ≤ R.frames ∧ 8 + (n + 11) + r.locals ≤ R.locals := by
  unfold rOk at h
  rw [Bool.and_eq_true] at h
  exact ⟨Nat.le_of_ble_eq_true h.1, Nat.le_of_ble_eq_true h.2⟩
section CALLR
variable {ρ β : Type} {Q : ρ → State → Prop} {en' : β → Option Value} {fs' : β → St} {Γ : Gm} {Ξ : Gx} {E : Ev} {μ μ' : Md} {σ : St} {pc np idx b ci : Nat} {lv : List (Nat × Value)} {st As rest : List Value} {f : Option β} {K : β → Option ρ} {q : vw_C}
theorem ctr_words (hM : MF μ' np) : GoodIn tT (.code μ'.1 μ'.2.1 μ'.2.2.1 μ'.2.2.2.1 :: tT) := tG (fun w hw => by
  rcases List.mem_cons.mp hw with rfl | h
  · exact hM.2.2.2.1
  · exact h)
theorem s_callV0 (hM : MF μ' np) (hV : VF μ') (hL : Cond.methodLink μ.1.cls idx μ'.1 ∈ tT) (hC : Ctr Γ.2.1 en' fs' E μ' (rV E b :: As) σ f) (hm : b ∈ E.2.2.2.1) (hkd : kd b = ci) (hci : ci < 11) (hc : vwCl[ci]? = some q) (hq : q.1 = μ'.1.cls) (hn : As.length = np) (hst : st = As.reverse ++ rV E b :: rest) (hW : (rest.map fun v => v.category).sum ≤ 8) (hR : rOk μ.2.2.2.2 μ'.2.2.2.2 μ'.2.2.1 = true) (hd : decode μ.2.1 pc = .ok (.invokevirtual idx, 3))
    (kk : ∀ r, Sim Q Γ Ξ E μ (fs' r) (pc + 3) lv ((en' r).toList ++ rest) (K r)) : Sim Q Γ Ξ E μ σ pc lv st (calP f K) := by
  intro Cc r ho ls H locs hl hP hS
  obtain ⟨r1, hf, ho2⟩ := calP_in ho
  obtain ⟨hx, hb, hml, hr', hown', hts, hlocks, hK, ⟨hE, hA, hcc, hcs⟩, hKs⟩ := id Cc
  obtain ⟨q0, hq0, hqq⟩ := ws_get σ hm
  rw [cont_o E σ hkd hci] at hqq
  have hcw : CallW μ.2.2.2.2 Γ.2.2.2.1 Γ.2.2.2.2.2.1 μ.1.cls μ'.1.cls idx μ'.1 μ'.2.1 μ'.2.2.1 μ'.2.2.2.1 (.code μ'.1 μ'.2.1 μ'.2.2.1 μ'.2.2.2.1 :: tT) μ'.2.2.2.2 0 0 np :=
    ⟨callB_of np hts (ctr_words hM) rfl hM.2.2.2.2.2.1 hM.2.2.2.2.2.2 (hts _ hM.2.2.2.2.1) (hts _ hL) ⟨hM.1, hM.2.1, hM.2.2.1⟩ (rOk_1 hR), hts _ hV.1, hts _ hV.2⟩
  have hrec := va_recv hK hP hc hqq
  rw [hq] at hrec
  exact sv_call (va_runV (As := As) (rest := rest) (b := E.2.2.1 b) ⟨hx, hb, hml, hown', hts⟩ (hC hE r1 hf) hcw ⟨PcE_blind E _ σ, hrec, fun U hU hW => ⟨rfl, by rw [hU]; exact hP, va_K.moved hW.alike hK, by rw [hU]; exact ((Kt.kept hS.2.1 hKs).warm hW).narrow hA⟩⟩ rfl hn hl.1 hst (lv_room hW) hd ⟨hcc, hcs⟩) hS hA (fun H1 locs1 hP1 _ _ hS1 => kk r1 Cc r ho2 ls H1 locs1 hl hP1 hS1)
theorem s_callS0 (hM : MF μ' np) (hV : Cond.static μ'.1 ∈ tT) (hL : Cond.methodLink μ.1.cls idx μ'.1 ∈ tT) (hC : Ctr Γ.2.1 en' fs' E μ' As σ f) (hn : As.length = np) (hst : st = As.reverse ++ rest) (hW : (rest.map fun v => v.category).sum ≤ 8) (hR : rOk μ.2.2.2.2 μ'.2.2.2.2 μ'.2.2.1 = true) (hd : decode μ.2.1 pc = .ok (.invokestatic idx, 3))
    (kk : ∀ r, Sim Q Γ Ξ E μ (fs' r) (pc + 3) lv ((en' r).toList ++ rest) (K r)) : Sim Q Γ Ξ E μ σ pc lv st (calP f K) := by
  intro Cc r ho ls H locs hl hP hS
  obtain ⟨r1, hf, ho2⟩ := calP_in ho
  obtain ⟨hx, hb, hml, hr', hown', hts, hlocks, hK, ⟨hE, hA, hcc, hcs⟩, hKs⟩ := id Cc
  have hcw : CallB μ.2.2.2.2 Γ.2.2.2.1 Γ.2.2.2.2.2.1 μ.1.cls idx μ'.1 μ'.2.1 μ'.2.2.1 μ'.2.2.2.1 (.code μ'.1 μ'.2.1 μ'.2.2.1 μ'.2.2.2.1 :: tT) μ'.2.2.2.2 0 0 np :=
    callB_of np hts (ctr_words hM) rfl hM.2.2.2.2.2.1 hM.2.2.2.2.2.2 (hts _ hM.2.2.2.2.1) (hts _ hL) ⟨hM.1, hM.2.1, hM.2.2.1⟩ (rOk_1 hR)
  exact sv_call (va_runS (As := As) (rest := rest) ⟨hx, hb, hml, hown', hts⟩ (hC hE r1 hf) ⟨hcw, hts _ hV⟩ ⟨PcE_blind E _ σ, fun U hU hW => ⟨rfl, by rw [hU]; exact hP, va_K.moved hW.alike hK, by rw [hU]; exact ((Kt.kept hS.2.1 hKs).warm hW).narrow hA⟩⟩ rfl hn hl.1 hst (lv_room hW) hd ⟨hcc, hcs⟩) hS hA (fun H1 locs1 hP1 _ _ hS1 => kk r1 Cc r ho2 ls H1 locs1 hl hP1 hS1)
theorem s_callN0 {host : String} (hM : MF μ' np) (hV : Cond.static μ'.1 ∈ tT) (hL : Cond.methodLinkNest μ.1.cls idx μ'.1 host ∈ nestW) (hC : Ctr Γ.2.1 en' fs' E μ' As σ f) (hn : As.length = np) (hst : st = As.reverse ++ rest) (hW : (rest.map fun v => v.category).sum ≤ 8) (hR : rOk μ.2.2.2.2 μ'.2.2.2.2 μ'.2.2.1 = true) (hd : decode μ.2.1 pc = .ok (.invokestatic idx, 3))
    (kk : ∀ r, Sim Q Γ Ξ E μ (fs' r) (pc + 3) lv ((en' r).toList ++ rest) (K r)) : Sim Q Γ Ξ E μ σ pc lv st (calP f K) := by
  intro Cc r ho ls H locs hl hP hS
  obtain ⟨r1, hf, ho2⟩ := calP_in ho
  obtain ⟨hx, hb, hml, hr', hown', hts, hlocks, hK, ⟨hE, hA, hcc, hcs⟩, hKs⟩ := id Cc
  have hcw : va_CN μ.2.2.2.2 Γ.2.2.2.1 Γ.2.2.2.2.2.1 μ.1.cls idx μ'.1 host μ'.2.1 μ'.2.2.1 μ'.2.2.2.1 (.code μ'.1 μ'.2.1 μ'.2.2.1 μ'.2.2.2.1 :: tT) μ'.2.2.2.2 0 0 np :=
    va_cnB np hts (ctr_words hM) rfl hM.2.2.2.2.2.1 hM.2.2.2.2.2.2 (hKs.1 _ hL) (hts _ hM.2.2.2.2.1) ⟨hM.1, hM.2.1, hM.2.2.1⟩ (rOk_1 hR)
  exact sv_call (va_runSN (As := As) (rest := rest) ⟨hx, hb, hml, hown', hts⟩ (hC hE r1 hf) ⟨hcw, hts _ hV, trivial⟩ ⟨PcE_blind E _ σ, fun U hU hW => ⟨rfl, by rw [hU]; exact hP, va_K.moved hW.alike hK, by rw [hU]; exact ((Kt.kept hS.2.1 hKs).warm hW).narrow hA⟩⟩ rfl hn hl.1 hst (lv_room hW) hd ⟨hcc, hcs⟩) hS hA (fun H1 locs1 hP1 _ _ hS1 => kk r1 Cc r ho2 ls H1 locs1 hl hP1 hS1)
end CALLR
theorem maxS : Cond.static Lib.Math.max.name ∈ tT := tM 579 (by decide +kernel) rfl
theorem maxI : Cond.initialized "java/lang/Math" ∈ tT := tM 99 (by decide +kernel) rfl
theorem maxC : Cond.code Lib.Math.max.name Lib.Math.max.code 2 (some .int) ∈ tT := tM 580 (by decide +kernel) rfl
theorem minS : Cond.static Lib.Math.min.name ∈ tT := tM 439 (by decide +kernel) rfl
theorem minC : Cond.code Lib.Math.min.name Lib.Math.min.code 2 (some .int) ∈ tT := tM 440 (by decide +kernel) rfl
-- the same, by what comes back: p nothing is written, w the state comes too; I int, L long, V nothing, M, C an object by its number
section CALLK
variable {ρ : Type} {Q : ρ → State → Prop} {Γ : Gm} {Ξ : Gx} {E : Ev} {μ μ' : Md} {σ : St} {pc np idx b ci : Nat} {lv : List (Nat × Value)} {st As rest : List Value} {q : vw_C}
theorem s_callVpI {f : Option Int32} {K : Int32 → Option ρ} (hM : MF μ' np) (hV : VF μ') (hL : Cond.methodLink μ.1.cls idx μ'.1 ∈ tT) (hC : Ctr Γ.2.1 (enI) (fun _ => σ) E μ' (rV E b :: As) σ f) (hm : b ∈ E.2.2.2.1) (hkd : kd b = ci) (hci : ci < 11) (hc : vwCl[ci]? = some q) (hq : q.1 = μ'.1.cls) (hn : As.length = np) (hst : st = As.reverse ++ rV E b :: rest) (hW : (rest.map fun v => v.category).sum ≤ 8) (hR : rOk μ.2.2.2.2 μ'.2.2.2.2 μ'.2.2.1 = true) (hd : decode μ.2.1 pc = .ok (.invokevirtual idx, 3)) (kk : ∀ r, Sim Q Γ Ξ E μ σ (pc + 3) lv (.int r :: rest) (K r)) : Sim Q Γ Ξ E μ σ pc lv st (calP f K) := s_callV0 hM hV hL hC hm hkd hci hc hq hn hst hW hR hd kk
theorem s_callVwI {f : Option (Int32 × St)} {K : Int32 → St → Option ρ} (hM : MF μ' np) (hV : VF μ') (hL : Cond.methodLink μ.1.cls idx μ'.1 ∈ tT) (hC : Ctr Γ.2.1 (en2 (enI)) (fun q => q.2) E μ' (rV E b :: As) σ f) (hm : b ∈ E.2.2.2.1) (hkd : kd b = ci) (hci : ci < 11) (hc : vwCl[ci]? = some q) (hq : q.1 = μ'.1.cls) (hn : As.length = np) (hst : st = As.reverse ++ rV E b :: rest) (hW : (rest.map fun v => v.category).sum ≤ 8) (hR : rOk μ.2.2.2.2 μ'.2.2.2.2 μ'.2.2.1 = true) (hd : decode μ.2.1 pc = .ok (.invokevirtual idx, 3)) (kk : ∀ r σ1, Sim Q Γ Ξ E μ σ1 (pc + 3) lv (.int r :: rest) (K r σ1)) : Sim Q Γ Ξ E μ σ pc lv st (cal f K) := s_callV0 hM hV hL hC hm hkd hci hc hq hn hst hW hR hd (fun r => kk r.1 r.2)
theorem s_callVpL {f : Option Int64} {K : Int64 → Option ρ} (hM : MF μ' np) (hV : VF μ') (hL : Cond.methodLink μ.1.cls idx μ'.1 ∈ tT) (hC : Ctr Γ.2.1 (enL) (fun _ => σ) E μ' (rV E b :: As) σ f) (hm : b ∈ E.2.2.2.1) (hkd : kd b = ci) (hci : ci < 11) (hc : vwCl[ci]? = some q) (hq : q.1 = μ'.1.cls) (hn : As.length = np) (hst : st = As.reverse ++ rV E b :: rest) (hW : (rest.map fun v => v.category).sum ≤ 8) (hR : rOk μ.2.2.2.2 μ'.2.2.2.2 μ'.2.2.1 = true) (hd : decode μ.2.1 pc = .ok (.invokevirtual idx, 3)) (kk : ∀ r, Sim Q Γ Ξ E μ σ (pc + 3) lv (.long r :: rest) (K r)) : Sim Q Γ Ξ E μ σ pc lv st (calP f K) := s_callV0 hM hV hL hC hm hkd hci hc hq hn hst hW hR hd kk
theorem s_callVwL {f : Option (Int64 × St)} {K : Int64 → St → Option ρ} (hM : MF μ' np) (hV : VF μ') (hL : Cond.methodLink μ.1.cls idx μ'.1 ∈ tT) (hC : Ctr Γ.2.1 (en2 (enL)) (fun q => q.2) E μ' (rV E b :: As) σ f) (hm : b ∈ E.2.2.2.1) (hkd : kd b = ci) (hci : ci < 11) (hc : vwCl[ci]? = some q) (hq : q.1 = μ'.1.cls) (hn : As.length = np) (hst : st = As.reverse ++ rV E b :: rest) (hW : (rest.map fun v => v.category).sum ≤ 8) (hR : rOk μ.2.2.2.2 μ'.2.2.2.2 μ'.2.2.1 = true) (hd : decode μ.2.1 pc = .ok (.invokevirtual idx, 3)) (kk : ∀ r σ1, Sim Q Γ Ξ E μ σ1 (pc + 3) lv (.long r :: rest) (K r σ1)) : Sim Q Γ Ξ E μ σ pc lv st (cal f K) := s_callV0 hM hV hL hC hm hkd hci hc hq hn hst hW hR hd (fun r => kk r.1 r.2)
theorem s_callVpV {f : Option Unit} {K : Unit → Option ρ} (hM : MF μ' np) (hV : VF μ') (hL : Cond.methodLink μ.1.cls idx μ'.1 ∈ tT) (hC : Ctr Γ.2.1 (enV) (fun _ => σ) E μ' (rV E b :: As) σ f) (hm : b ∈ E.2.2.2.1) (hkd : kd b = ci) (hci : ci < 11) (hc : vwCl[ci]? = some q) (hq : q.1 = μ'.1.cls) (hn : As.length = np) (hst : st = As.reverse ++ rV E b :: rest) (hW : (rest.map fun v => v.category).sum ≤ 8) (hR : rOk μ.2.2.2.2 μ'.2.2.2.2 μ'.2.2.1 = true) (hd : decode μ.2.1 pc = .ok (.invokevirtual idx, 3)) (kk : ∀ r, Sim Q Γ Ξ E μ σ (pc + 3) lv (rest) (K r)) : Sim Q Γ Ξ E μ σ pc lv st (calP f K) := s_callV0 hM hV hL hC hm hkd hci hc hq hn hst hW hR hd kk
theorem s_callVwV {f : Option (Unit × St)} {K : Unit → St → Option ρ} (hM : MF μ' np) (hV : VF μ') (hL : Cond.methodLink μ.1.cls idx μ'.1 ∈ tT) (hC : Ctr Γ.2.1 (en2 (enV)) (fun q => q.2) E μ' (rV E b :: As) σ f) (hm : b ∈ E.2.2.2.1) (hkd : kd b = ci) (hci : ci < 11) (hc : vwCl[ci]? = some q) (hq : q.1 = μ'.1.cls) (hn : As.length = np) (hst : st = As.reverse ++ rV E b :: rest) (hW : (rest.map fun v => v.category).sum ≤ 8) (hR : rOk μ.2.2.2.2 μ'.2.2.2.2 μ'.2.2.1 = true) (hd : decode μ.2.1 pc = .ok (.invokevirtual idx, 3)) (kk : ∀ r σ1, Sim Q Γ Ξ E μ σ1 (pc + 3) lv (rest) (K r σ1)) : Sim Q Γ Ξ E μ σ pc lv st (cal f K) := s_callV0 hM hV hL hC hm hkd hci hc hq hn hst hW hR hd (fun r => kk r.1 r.2)
theorem s_callVpM {f : Option Nat} {K : Nat → Option ρ} (hM : MF μ' np) (hV : VF μ') (hL : Cond.methodLink μ.1.cls idx μ'.1 ∈ tT) (hC : Ctr Γ.2.1 (enS E) (fun _ => σ) E μ' (rV E b :: As) σ f) (hm : b ∈ E.2.2.2.1) (hkd : kd b = ci) (hci : ci < 11) (hc : vwCl[ci]? = some q) (hq : q.1 = μ'.1.cls) (hn : As.length = np) (hst : st = As.reverse ++ rV E b :: rest) (hW : (rest.map fun v => v.category).sum ≤ 8) (hR : rOk μ.2.2.2.2 μ'.2.2.2.2 μ'.2.2.1 = true) (hd : decode μ.2.1 pc = .ok (.invokevirtual idx, 3)) (kk : ∀ r, Sim Q Γ Ξ E μ σ (pc + 3) lv (rV E (32 + 2 * r) :: rest) (K r)) : Sim Q Γ Ξ E μ σ pc lv st (calP f K) := s_callV0 hM hV hL hC hm hkd hci hc hq hn hst hW hR hd kk
theorem s_callVwM {f : Option (Nat × St)} {K : Nat → St → Option ρ} (hM : MF μ' np) (hV : VF μ') (hL : Cond.methodLink μ.1.cls idx μ'.1 ∈ tT) (hC : Ctr Γ.2.1 (en2 (enS E)) (fun q => q.2) E μ' (rV E b :: As) σ f) (hm : b ∈ E.2.2.2.1) (hkd : kd b = ci) (hci : ci < 11) (hc : vwCl[ci]? = some q) (hq : q.1 = μ'.1.cls) (hn : As.length = np) (hst : st = As.reverse ++ rV E b :: rest) (hW : (rest.map fun v => v.category).sum ≤ 8) (hR : rOk μ.2.2.2.2 μ'.2.2.2.2 μ'.2.2.1 = true) (hd : decode μ.2.1 pc = .ok (.invokevirtual idx, 3)) (kk : ∀ r σ1, Sim Q Γ Ξ E μ σ1 (pc + 3) lv (rV E (32 + 2 * r) :: rest) (K r σ1)) : Sim Q Γ Ξ E μ σ pc lv st (cal f K) := s_callV0 hM hV hL hC hm hkd hci hc hq hn hst hW hR hd (fun r => kk r.1 r.2)
theorem s_callVpC {f : Option Nat} {K : Nat → Option ρ} (hM : MF μ' np) (hV : VF μ') (hL : Cond.methodLink μ.1.cls idx μ'.1 ∈ tT) (hC : Ctr Γ.2.1 (enC E) (fun _ => σ) E μ' (rV E b :: As) σ f) (hm : b ∈ E.2.2.2.1) (hkd : kd b = ci) (hci : ci < 11) (hc : vwCl[ci]? = some q) (hq : q.1 = μ'.1.cls) (hn : As.length = np) (hst : st = As.reverse ++ rV E b :: rest) (hW : (rest.map fun v => v.category).sum ≤ 8) (hR : rOk μ.2.2.2.2 μ'.2.2.2.2 μ'.2.2.1 = true) (hd : decode μ.2.1 pc = .ok (.invokevirtual idx, 3)) (kk : ∀ r, Sim Q Γ Ξ E μ σ (pc + 3) lv (rV E (40 + 5 * r) :: rest) (K r)) : Sim Q Γ Ξ E μ σ pc lv st (calP f K) := s_callV0 hM hV hL hC hm hkd hci hc hq hn hst hW hR hd kk
theorem s_callVwC {f : Option (Nat × St)} {K : Nat → St → Option ρ} (hM : MF μ' np) (hV : VF μ') (hL : Cond.methodLink μ.1.cls idx μ'.1 ∈ tT) (hC : Ctr Γ.2.1 (en2 (enC E)) (fun q => q.2) E μ' (rV E b :: As) σ f) (hm : b ∈ E.2.2.2.1) (hkd : kd b = ci) (hci : ci < 11) (hc : vwCl[ci]? = some q) (hq : q.1 = μ'.1.cls) (hn : As.length = np) (hst : st = As.reverse ++ rV E b :: rest) (hW : (rest.map fun v => v.category).sum ≤ 8) (hR : rOk μ.2.2.2.2 μ'.2.2.2.2 μ'.2.2.1 = true) (hd : decode μ.2.1 pc = .ok (.invokevirtual idx, 3)) (kk : ∀ r σ1, Sim Q Γ Ξ E μ σ1 (pc + 3) lv (rV E (40 + 5 * r) :: rest) (K r σ1)) : Sim Q Γ Ξ E μ σ pc lv st (cal f K) := s_callV0 hM hV hL hC hm hkd hci hc hq hn hst hW hR hd (fun r => kk r.1 r.2)
theorem s_callSpI {f : Option Int32} {K : Int32 → Option ρ} (hM : MF μ' np) (hV : Cond.static μ'.1 ∈ tT) (hL : Cond.methodLink μ.1.cls idx μ'.1 ∈ tT) (hC : Ctr Γ.2.1 (enI) (fun _ => σ) E μ' As σ f) (hn : As.length = np) (hst : st = As.reverse ++ rest) (hW : (rest.map fun v => v.category).sum ≤ 8) (hR : rOk μ.2.2.2.2 μ'.2.2.2.2 μ'.2.2.1 = true) (hd : decode μ.2.1 pc = .ok (.invokestatic idx, 3)) (kk : ∀ r, Sim Q Γ Ξ E μ σ (pc + 3) lv (.int r :: rest) (K r)) : Sim Q Γ Ξ E μ σ pc lv st (calP f K) := s_callS0 hM hV hL hC hn hst hW hR hd kk
theorem s_callSwI {f : Option (Int32 × St)} {K : Int32 → St → Option ρ} (hM : MF μ' np) (hV : Cond.static μ'.1 ∈ tT) (hL : Cond.methodLink μ.1.cls idx μ'.1 ∈ tT) (hC : Ctr Γ.2.1 (en2 (enI)) (fun q => q.2) E μ' As σ f) (hn : As.length = np) (hst : st = As.reverse ++ rest) (hW : (rest.map fun v => v.category).sum ≤ 8) (hR : rOk μ.2.2.2.2 μ'.2.2.2.2 μ'.2.2.1 = true) (hd : decode μ.2.1 pc = .ok (.invokestatic idx, 3)) (kk : ∀ r σ1, Sim Q Γ Ξ E μ σ1 (pc + 3) lv (.int r :: rest) (K r σ1)) : Sim Q Γ Ξ E μ σ pc lv st (cal f K) := s_callS0 hM hV hL hC hn hst hW hR hd (fun r => kk r.1 r.2)
theorem s_callSpL {f : Option Int64} {K : Int64 → Option ρ} (hM : MF μ' np) (hV : Cond.static μ'.1 ∈ tT) (hL : Cond.methodLink μ.1.cls idx μ'.1 ∈ tT) (hC : Ctr Γ.2.1 (enL) (fun _ => σ) E μ' As σ f) (hn : As.length = np) (hst : st = As.reverse ++ rest) (hW : (rest.map fun v => v.category).sum ≤ 8) (hR : rOk μ.2.2.2.2 μ'.2.2.2.2 μ'.2.2.1 = true) (hd : decode μ.2.1 pc = .ok (.invokestatic idx, 3)) (kk : ∀ r, Sim Q Γ Ξ E μ σ (pc + 3) lv (.long r :: rest) (K r)) : Sim Q Γ Ξ E μ σ pc lv st (calP f K) := s_callS0 hM hV hL hC hn hst hW hR hd kk
theorem s_callSwL {f : Option (Int64 × St)} {K : Int64 → St → Option ρ} (hM : MF μ' np) (hV : Cond.static μ'.1 ∈ tT) (hL : Cond.methodLink μ.1.cls idx μ'.1 ∈ tT) (hC : Ctr Γ.2.1 (en2 (enL)) (fun q => q.2) E μ' As σ f) (hn : As.length = np) (hst : st = As.reverse ++ rest) (hW : (rest.map fun v => v.category).sum ≤ 8) (hR : rOk μ.2.2.2.2 μ'.2.2.2.2 μ'.2.2.1 = true) (hd : decode μ.2.1 pc = .ok (.invokestatic idx, 3)) (kk : ∀ r σ1, Sim Q Γ Ξ E μ σ1 (pc + 3) lv (.long r :: rest) (K r σ1)) : Sim Q Γ Ξ E μ σ pc lv st (cal f K) := s_callS0 hM hV hL hC hn hst hW hR hd (fun r => kk r.1 r.2)
theorem s_callSpV {f : Option Unit} {K : Unit → Option ρ} (hM : MF μ' np) (hV : Cond.static μ'.1 ∈ tT) (hL : Cond.methodLink μ.1.cls idx μ'.1 ∈ tT) (hC : Ctr Γ.2.1 (enV) (fun _ => σ) E μ' As σ f) (hn : As.length = np) (hst : st = As.reverse ++ rest) (hW : (rest.map fun v => v.category).sum ≤ 8) (hR : rOk μ.2.2.2.2 μ'.2.2.2.2 μ'.2.2.1 = true) (hd : decode μ.2.1 pc = .ok (.invokestatic idx, 3)) (kk : ∀ r, Sim Q Γ Ξ E μ σ (pc + 3) lv (rest) (K r)) : Sim Q Γ Ξ E μ σ pc lv st (calP f K) := s_callS0 hM hV hL hC hn hst hW hR hd kk
theorem s_callSwV {f : Option (Unit × St)} {K : Unit → St → Option ρ} (hM : MF μ' np) (hV : Cond.static μ'.1 ∈ tT) (hL : Cond.methodLink μ.1.cls idx μ'.1 ∈ tT) (hC : Ctr Γ.2.1 (en2 (enV)) (fun q => q.2) E μ' As σ f) (hn : As.length = np) (hst : st = As.reverse ++ rest) (hW : (rest.map fun v => v.category).sum ≤ 8) (hR : rOk μ.2.2.2.2 μ'.2.2.2.2 μ'.2.2.1 = true) (hd : decode μ.2.1 pc = .ok (.invokestatic idx, 3)) (kk : ∀ r σ1, Sim Q Γ Ξ E μ σ1 (pc + 3) lv (rest) (K r σ1)) : Sim Q Γ Ξ E μ σ pc lv st (cal f K) := s_callS0 hM hV hL hC hn hst hW hR hd (fun r => kk r.1 r.2)
theorem s_callNpI {f : Option Int32} {K : Int32 → Option ρ} (hM : MF μ' np) {host : String} (hV : Cond.static μ'.1 ∈ tT) (hL : Cond.methodLinkNest μ.1.cls idx μ'.1 host ∈ nestW) (hC : Ctr Γ.2.1 (enI) (fun _ => σ) E μ' As σ f) (hn : As.length = np) (hst : st = As.reverse ++ rest) (hW : (rest.map fun v => v.category).sum ≤ 8) (hR : rOk μ.2.2.2.2 μ'.2.2.2.2 μ'.2.2.1 = true) (hd : decode μ.2.1 pc = .ok (.invokestatic idx, 3)) (kk : ∀ r, Sim Q Γ Ξ E μ σ (pc + 3) lv (.int r :: rest) (K r)) : Sim Q Γ Ξ E μ σ pc lv st (calP f K) := s_callN0 hM hV hL hC hn hst hW hR hd kk
theorem s_callNwI {f : Option (Int32 × St)} {K : Int32 → St → Option ρ} (hM : MF μ' np) {host : String} (hV : Cond.static μ'.1 ∈ tT) (hL : Cond.methodLinkNest μ.1.cls idx μ'.1 host ∈ nestW) (hC : Ctr Γ.2.1 (en2 (enI)) (fun q => q.2) E μ' As σ f) (hn : As.length = np) (hst : st = As.reverse ++ rest) (hW : (rest.map fun v => v.category).sum ≤ 8) (hR : rOk μ.2.2.2.2 μ'.2.2.2.2 μ'.2.2.1 = true) (hd : decode μ.2.1 pc = .ok (.invokestatic idx, 3)) (kk : ∀ r σ1, Sim Q Γ Ξ E μ σ1 (pc + 3) lv (.int r :: rest) (K r σ1)) : Sim Q Γ Ξ E μ σ pc lv st (cal f K) := s_callN0 hM hV hL hC hn hst hW hR hd (fun r => kk r.1 r.2)
theorem s_callNpL {f : Option Int64} {K : Int64 → Option ρ} (hM : MF μ' np) {host : String} (hV : Cond.static μ'.1 ∈ tT) (hL : Cond.methodLinkNest μ.1.cls idx μ'.1 host ∈ nestW) (hC : Ctr Γ.2.1 (enL) (fun _ => σ) E μ' As σ f) (hn : As.length = np) (hst : st = As.reverse ++ rest) (hW : (rest.map fun v => v.category).sum ≤ 8) (hR : rOk μ.2.2.2.2 μ'.2.2.2.2 μ'.2.2.1 = true) (hd : decode μ.2.1 pc = .ok (.invokestatic idx, 3)) (kk : ∀ r, Sim Q Γ Ξ E μ σ (pc + 3) lv (.long r :: rest) (K r)) : Sim Q Γ Ξ E μ σ pc lv st (calP f K) := s_callN0 hM hV hL hC hn hst hW hR hd kk
theorem s_callNwL {f : Option (Int64 × St)} {K : Int64 → St → Option ρ} (hM : MF μ' np) {host : String} (hV : Cond.static μ'.1 ∈ tT) (hL : Cond.methodLinkNest μ.1.cls idx μ'.1 host ∈ nestW) (hC : Ctr Γ.2.1 (en2 (enL)) (fun q => q.2) E μ' As σ f) (hn : As.length = np) (hst : st = As.reverse ++ rest) (hW : (rest.map fun v => v.category).sum ≤ 8) (hR : rOk μ.2.2.2.2 μ'.2.2.2.2 μ'.2.2.1 = true) (hd : decode μ.2.1 pc = .ok (.invokestatic idx, 3)) (kk : ∀ r σ1, Sim Q Γ Ξ E μ σ1 (pc + 3) lv (.long r :: rest) (K r σ1)) : Sim Q Γ Ξ E μ σ pc lv st (cal f K) := s_callN0 hM hV hL hC hn hst hW hR hd (fun r => kk r.1 r.2)
theorem s_callNpV {f : Option Unit} {K : Unit → Option ρ} (hM : MF μ' np) {host : String} (hV : Cond.static μ'.1 ∈ tT) (hL : Cond.methodLinkNest μ.1.cls idx μ'.1 host ∈ nestW) (hC : Ctr Γ.2.1 (enV) (fun _ => σ) E μ' As σ f) (hn : As.length = np) (hst : st = As.reverse ++ rest) (hW : (rest.map fun v => v.category).sum ≤ 8) (hR : rOk μ.2.2.2.2 μ'.2.2.2.2 μ'.2.2.1 = true) (hd : decode μ.2.1 pc = .ok (.invokestatic idx, 3)) (kk : ∀ r, Sim Q Γ Ξ E μ σ (pc + 3) lv (rest) (K r)) : Sim Q Γ Ξ E μ σ pc lv st (calP f K) := s_callN0 hM hV hL hC hn hst hW hR hd kk
theorem s_callNwV {f : Option (Unit × St)} {K : Unit → St → Option ρ} (hM : MF μ' np) {host : String} (hV : Cond.static μ'.1 ∈ tT) (hL : Cond.methodLinkNest μ.1.cls idx μ'.1 host ∈ nestW) (hC : Ctr Γ.2.1 (en2 (enV)) (fun q => q.2) E μ' As σ f) (hn : As.length = np) (hst : st = As.reverse ++ rest) (hW : (rest.map fun v => v.category).sum ≤ 8) (hR : rOk μ.2.2.2.2 μ'.2.2.2.2 μ'.2.2.1 = true) (hd : decode μ.2.1 pc = .ok (.invokestatic idx, 3)) (kk : ∀ r σ1, Sim Q Γ Ξ E μ σ1 (pc + 3) lv (rest) (K r σ1)) : Sim Q Γ Ξ E μ σ pc lv st (cal f K) := s_callN0 hM hV hL hC hn hst hW hR hd (fun r => kk r.1 r.2)
/-- Math.max, Math.min -/
theorem s_mmax {x y : Int32} (hL : Cond.methodLink μ.1.cls idx Lib.Math.max.name ∈ tT) (hR : ((1).ble μ.2.2.2.2.frames && ((st.map fun v => v.category).sum + 13).ble μ.2.2.2.2.locals) = true) (hd : decode μ.2.1 pc = .ok (.invokestatic idx, 3)) {o : Option ρ} (kk : Sim Q Γ Ξ E μ σ (pc + 3) lv (.int (if x < y then y else x) :: st) o) : Sim Q Γ Ξ E μ σ pc lv (.int y :: .int x :: st) o := by
  intro Cc r ho ls H locs hl hP hS
  obtain ⟨hx, hb, hml, hr', hown', hts, hlocks, hK, ⟨hE, hA, hcc, hcs⟩, hKs⟩ := id Cc
  rw [Bool.and_eq_true] at hR
  exact va_mmax hx hb (hml.trans hl.1.symm) hown' (hts _ hL) (hts _ maxS) (hts _ maxI) (hts _ maxC) (Nat.le_of_ble_eq_true hR.1) (Nat.le_of_ble_eq_true hR.2) hcc hcs hd (kk Cc r ho ls H locs hl hP hS)
theorem s_mmin {x y : Int32} (hL : Cond.methodLink μ.1.cls idx Lib.Math.min.name ∈ tT) (hR : ((1).ble μ.2.2.2.2.frames && ((st.map fun v => v.category).sum + 13).ble μ.2.2.2.2.locals) = true) (hd : decode μ.2.1 pc = .ok (.invokestatic idx, 3)) {o : Option ρ} (kk : Sim Q Γ Ξ E μ σ (pc + 3) lv (.int (if y < x then y else x) :: st) o) : Sim Q Γ Ξ E μ σ pc lv (.int y :: .int x :: st) o := by
  intro Cc r ho ls H locs hl hP hS
  obtain ⟨hx, hb, hml, hr', hown', hts, hlocks, hK, ⟨hE, hA, hcc, hcs⟩, hKs⟩ := id Cc
  rw [Bool.and_eq_true] at hR
  exact va_mmin hx hb (hml.trans hl.1.symm) hown' (hts _ hL) (hts _ minS) (hts _ maxI) (hts _ minC) (Nat.le_of_ble_eq_true hR.1) (Nat.le_of_ble_eq_true hR.2) hcc hcs hd (kk Cc r ho ls H locs hl hP hS)
/-- the table LACKS, at 133 -/
theorem s_getK {own : String} {o : Option ρ} (hown : μ.1.cls = own) (hL : Cond.fieldLink own idx "RunnerNet$Guards" "LACKS" "[J" ∈ tT) (hd : decode μ.2.1 pc = .ok (.getstatic idx, 3)) (kk : Sim Q Γ Ξ E μ σ (pc + 3) lv (rV E 133 :: st) o) : Sim Q Γ Ξ E μ σ pc lv st o := by
  intro Cc r ho ls H locs hl hP hS
  obtain ⟨hx, hb, hml, hr', hown', hts, hlocks, hK, ⟨hE, hA, hcc, hcs⟩, hKs⟩ := id Cc
  rw [hown] at hown'
  exact va_gets hx hb hKs.2.1.1 hS hown' (hts _ hL) (fun _ h => h) hd (kk Cc r ho ls H locs hl hP hS)
theorem s_lenK {o : Option ρ} (hd : decode μ.2.1 pc = .ok (.arraylength, 1)) (kk : Sim Q Γ Ξ E μ σ (pc + 1) lv (.int 6 :: st) o) : Sim Q Γ Ξ E μ σ pc lv (rV E 133 :: st) o := by
  intro Cc r ho ls H locs hl hP hS
  obtain ⟨hx, hb, hml, hr', hown', hts, hlocks, hK, ⟨hE, hA, hcc, hcs⟩, hKs⟩ := id Cc
  exact va_tlen hx hb hKs.2.1.2 hS rfl hd (kk Cc r ho ls H locs hl hP hS)
theorem s_ldK {i : Int32} {o : Option ρ} (hd : decode μ.2.1 pc = .ok (.laload, 1)) (kk : Sim Q Γ Ξ E μ σ (pc + 1) lv (.long (lackV i.toNatClampNeg) :: st) o) : Sim Q Γ Ξ E μ σ pc lv (.int i :: rV E 133 :: st) (ck i 6 o) := by
  intro Cc r ho ls H locs hl hP hS
  obtain ⟨hi, ho2⟩ := ck_in ho
  obtain ⟨hx, hb, hml, hr', hown', hts, hlocks, hK, ⟨hE, hA, hcc, hcs⟩, hKs⟩ := id Cc
  exact va_tl hx hb hKs.2.1.2 hS hi rfl hd (kk Cc r ho2 ls H locs hl hP hS)
end CALLK
end
section
/-- worlds that grow: references lead to cells that are there -/
def Rok (E : Ev) : Prop := ∀ b k, E.2.2.2.2 b k = true → b ∈ E.2.2.2.1 ∧ rf b k ∈ E.2.2.2.1 ∧ (ft b k = some 3 → 32 ∈ E.2.2.2.1 ∧ 34 ∈ E.2.2.2.1 ∧ 36 ∈ E.2.2.2.1)
def Ext (E E' : Ev) (news : List Nat) (rrs : List (Nat × Nat)) : Prop := E'.1 = E.1 ∧ E'.2.1 = E.2.1 ∧ (∀ b, b ∉ news → E'.2.2.1 b = E.2.2.1 b) ∧ E'.2.2.2.1 = E.2.2.2.1 ++ news ∧ (∀ b k, E'.2.2.2.2 b k = (E.2.2.2.2 b k || decide ((b, k) ∈ rrs))) ∧ Eok E' ∧ Rok E'
theorem Ext.rf {E : Ev} (h : Eok E) (h2 : Rok E) : Ext E E [] [] := ⟨rfl, rfl, fun _ _ => rfl, by simp, fun b k => by simp, h, h2⟩
theorem Ext.trans {E E1 E2 : Ev} {n1 n2 : List Nat} {r1 r2 : List (Nat × Nat)} (h1 : Ext E E1 n1 r1) (h2 : Ext E1 E2 n2 r2) : Ext E E2 (n1 ++ n2) (r1 ++ r2) := by
  obtain ⟨a1, a2, a3, a4, a5, a6, a7⟩ := h1
  obtain ⟨b1, b2, b3, b4, b5, b6, b7⟩ := h2
  refine ⟨b1.trans a1, b2.trans a2, fun b hb => ?_, ?_, fun b k => ?_, b6, b7⟩
  · rw [List.mem_append] at hb
    rw [b3 b (fun z => hb (Or.inr z)), a3 b (fun z => hb (Or.inl z))]
  · rw [b4, a4, List.append_assoc]
  · rw [b5, a5, Bool.or_assoc]
    congr 1
    simp only [List.mem_append, Bool.decide_or]
theorem ne_mem {l : List Nat} {a b : Nat} (ha : a ∉ l) (hb : b ∈ l) : b ≠ a := fun e => ha (e ▸ hb)
theorem dlast {A : Nat → Prop} {ws : va_W} {q : Nat} {c : va_E} (h : va_D A (ws ++ [(q, c)])) : A q := h.2 ws.length (q, c) (by simp)
def zr (σ : St) (a : Nat) : St := (va_up σ.1 a (fun _ => 0), va_up σ.2 a (fun _ => 0))
def AX (E : Ev) (sz : Nat) : Nat → Prop := fun q => AL E q ∨ sz ≤ q
theorem cont_ext {E : Ev} (hR : Rok E) (σ : St) {a b q : Nat} (ha : a ∉ E.2.2.2.1) (hb : b ∈ E.2.2.2.1) : cont (E.1, E.2.1, va_up E.2.2.1 a q, E.2.2.2.1 ++ [a], E.2.2.2.2) (zr σ a) b = cont E σ b := by
  have hba : b ≠ a := fun e => ha (e ▸ hb)
  have e1 : (zr σ a).1 b = σ.1 b := up_n _ _ hba
  have e2 : (zr σ a).2 b = σ.2 b := up_n _ _ hba
  have hn : ∀ {c : Nat}, c ∈ E.2.2.2.1 → va_up E.2.2.1 a q c = E.2.2.1 c := fun {c} hc => up_n _ _ (ne_mem ha hc)
  have hf : flds (E.1, E.2.1, va_up E.2.2.1 a q, E.2.2.2.1 ++ [a], E.2.2.2.2) (zr σ a) b = flds E σ b := by
    apply List.ext_getElem?
    intro k
    simp only [flds, List.getElem?_mapIdx]
    cases ht : (FTs.getD (kd b) [])[k]? with
    | none => rfl
    | some t =>
      have hft : ft b k = some t := ht
      simp only [Option.map_some, fv, rV, e1, e2]
      by_cases hr : E.2.2.2.2 b k = true
      · obtain ⟨-, h2, h3⟩ := hR b k hr
        rw [hn h2]
        by_cases h0 : t = 0
        · simp [h0]
        by_cases h1 : t = 1
        · simp [h1]
        by_cases h22 : t = 2
        · simp [h22]
        simp only [h0, h1, h22, hr, if_false]
        have hall : ∀ u, t = u → ft b k = some u := fun u e => e ▸ hft
        by_cases h33 : t = 3
        · obtain ⟨p1, p2, p3⟩ := h3 (hall 3 h33)
          have hm : (σ.1 b k).toNatClampNeg % 3 < 3 := Nat.mod_lt _ (by decide)
          have : va_up E.2.2.1 a q (32 + 2 * ((σ.1 b k).toNatClampNeg % 3)) = E.2.2.1 (32 + 2 * ((σ.1 b k).toNatClampNeg % 3)) := by
            rcases (show (σ.1 b k).toNatClampNeg % 3 = 0 ∨ (σ.1 b k).toNatClampNeg % 3 = 1 ∨ (σ.1 b k).toNatClampNeg % 3 = 2 by omega) with e | e | e <;> rw [e]
            · exact hn p1
            · exact hn p2
            · exact hn p3
          rw [this]
        · exfalso
          have : ∀ l ∈ FTs, ∀ t ∈ l, t < 4 := by decide
          have hmem : (FTs.getD (kd b) []) ∈ FTs ∨ (FTs.getD (kd b) []) = [] := by
            rw [List.getD_eq_getElem?_getD]
            cases hq : FTs[kd b]? with
            | none => right; rfl
            | some l => left; exact List.mem_of_getElem? hq
          rcases hmem with hm | hm
          · have := this _ hm t (List.mem_of_getElem? ht); omega
          · rw [hm] at ht; simp at ht
      · have hr' : E.2.2.2.2 b k = false := by simpa using hr
        simp [hr']
  have hq : (fun j => if E.2.2.2.2 b j = true then some (va_up E.2.2.1 a q (rf b j)) else none) = (fun j => if E.2.2.2.2 b j = true then some (E.2.2.1 (rf b j)) else none) := by
    funext j
    by_cases hr : E.2.2.2.2 b j = true
    · rw [if_pos hr, if_pos hr, hn (hR b j hr).2.1]
    · rw [if_neg hr, if_neg hr]
  unfold cont
  rw [hf, e1, e2]
  simp only [hq]
theorem ws_ext {E : Ev} (hR : Rok E) (σ : St) {a q : Nat} (ha : a ∉ E.2.2.2.1) : WS (E.1, E.2.1, va_up E.2.2.1 a q, E.2.2.2.1 ++ [a], E.2.2.2.2) (zr σ a) = WS E σ ++ [(q, cont (E.1, E.2.1, va_up E.2.2.1 a q, E.2.2.2.1 ++ [a], E.2.2.2.2) (zr σ a) a)] := by
  simp only [WS, List.map_append, List.map_cons, List.map_nil, up_s]
  congr 1
  apply List.map_congr_left
  intro b hb
  rw [cont_ext hR σ ha hb, up_n _ _ (ne_mem ha hb)]
theorem ext_new {E : Ev} (hE : Eok E) (hR : Rok E) {A : Nat → Prop} {σ : St} {a q : Nat} {c : va_E} (ha : a ∉ E.2.2.2.1) (hD : va_D A (WS E σ ++ [(q, c)])) : Ext E (E.1, E.2.1, va_up E.2.2.1 a q, E.2.2.2.1 ++ [a], E.2.2.2.2) [a] [] := by
  have hq : ∀ b, b ∈ E.2.2.2.1 → E.2.2.1 b ≠ q := by
    intro b hb e
    obtain ⟨k, hk, hw⟩ := ws_get σ hb
    have hl : k < (WS E σ).length := (List.getElem?_eq_some_iff.mp hw).1
    have h1 : (WS E σ ++ [(q, c)])[k]? = some (E.2.2.1 b, cont E σ b) := by rw [List.getElem?_append_left hl]; exact hw
    have h2 : (WS E σ ++ [(q, c)])[(WS E σ).length]? = some (q, c) := by simp
    have := hD.1 k _ _ _ h1 h2 e
    omega
  refine ⟨rfl, rfl, fun b hb => up_n _ _ (by simpa using hb), rfl, fun b k => by simp, ⟨?_, ?_⟩, ?_⟩
  · show (E.2.2.2.1 ++ [a]).Nodup
    rw [List.nodup_append]
    exact ⟨hE.1, by simp, fun x hx y hy e => ha (by simp at hy; rw [← hy, ← e]; exact hx)⟩
  · intro x y hx hy hxy
    replace hx : x ∈ E.2.2.2.1 ++ [a] := hx
    replace hy : y ∈ E.2.2.2.1 ++ [a] := hy
    replace hxy : va_up E.2.2.1 a q x = va_up E.2.2.1 a q y := hxy
    rw [List.mem_append, List.mem_singleton] at hx hy
    rcases hx with hx | rfl <;> rcases hy with hy | rfl
    · rw [up_n _ _ (ne_mem ha hx), up_n _ _ (ne_mem ha hy)] at hxy
      exact hE.2 x y hx hy hxy
    · rw [up_n _ _ (ne_mem ha hx), up_s] at hxy
      exact absurd hxy (hq x hx)
    · rw [up_n _ _ (ne_mem ha hy), up_s] at hxy
      exact absurd hxy.symm (hq y hy)
    · rfl
  · intro b k hr
    obtain ⟨h1, h2, h3⟩ := hR b k hr
    exact ⟨List.mem_append_left _ h1, List.mem_append_left _ h2, fun h => ⟨List.mem_append_left _ (h3 h).1, List.mem_append_left _ (h3 h).2.1, List.mem_append_left _ (h3 h).2.2⟩⟩
theorem tys_eq {E E' : Ev} (h : E'.2.1 = E.2.1) : tys E' = tys E := by simp [tys, h]
theorem vwc_no {ci : Nat} {q : vw_C} (h : vwCl[ci]? = some q) : ci < 11 := by
  have := (List.getElem?_eq_some_iff.mp h).1
  simpa using this
section CROWS
variable {ρ : Type} {Q : ρ → State → Prop} {Γ : Gm} {Ξ : Gx} {E : Ev} {μ : Md} {σ : St} {pc : Nat} {lv : List (Nat × Value)} {st : List Value} {o : Option ρ}
theorem s_objInit {own : String} {idx a : Nat} (hown : μ.1.cls = own) (hw1 : Cond.methodLink own idx objectInit ∈ tT) (hw2 : Cond.instanceMethod objectInit ∈ tT) (hw3 : Cond.code objectInit ⟨#[0xb1]⟩ 1 none ∈ tT) (hR : ((1).ble μ.2.2.2.2.frames && ((st.map fun v => v.category).sum + 12).ble μ.2.2.2.2.locals) = true) (hd : decode μ.2.1 pc = .ok (.invokespecial idx, 3)) (k : Sim Q Γ Ξ E μ σ (pc + 3) lv st o) : Sim Q Γ Ξ E μ σ pc lv (rV E a :: st) o := by
  intro Cc r ho ls H locs hl hP hS
  obtain ⟨hx, hb, hml, hr, hown', hts, hlocks, hK, ⟨hE, hA, hcc, hcs⟩, hKs⟩ := id Cc
  rw [hown] at hown'
  rw [Bool.and_eq_true] at hR
  refine W.objInit hx hb hown' (hts _ hw1) (hts _ hw2) (hts _ hw3) rfl (by rw [hml]; exact hl.1) rfl hd (Nat.le_of_ble_eq_true hR.1) ?_ (k Cc r ho ls H locs hl hP hS)
  show 2 * 0 + _ + 12 ≤ _
  have := Nat.le_of_ble_eq_true hR.2
  omega
/-- what a step to a grown world needs: the world behind it, and the lists told in it -/
theorem cx_ext {E2 : Ev} {news : List Nat} {rrs : List (Nat × Nat)} {c s : Nat} (C : Cx Γ Ξ E μ) (h : Ext E E2 news rrs) (hn : ∀ b, 130 ≤ b → b ∉ news) (hA2 : ∀ q, AL E2 q → Ξ.1 q) (hc : c ≤ μ.2.2.2.2.cells) (hs : s ≤ μ.2.2.2.2.slots) : Cx Γ (Ξ.1, c, s) E2 μ := by
  obtain ⟨hx, hb, hml, hr, hown', hts, hlocks, hK, ⟨hE, hA, hcc, hcs⟩, hKs⟩ := C
  obtain ⟨e1, e2, e3, e4, e5, e6, e7⟩ := h
  refine ⟨hx, hb, hml, hr, hown', hts, hlocks, ?_, ⟨e6, hA2, hc, hs⟩, ?_⟩
  · rw [e1, tys_eq e2]; exact hK
  · exact Kt.cg (fun j => e3 (130 + j) (hn _ (by omega))) hKs
theorem k_new {own C : String} {T : u_T} {N ci idx a : Nat} {ty0 : Nat → FieldType} {K : St → Option ρ} (lvc : Ev → List (Nat × Value)) (stc : Ev → List Value) (hlv : lv = lvc E) (hst : st = stc E)
    (hq : ∀ q, Γ.2.2.2.1.heap.size ≤ q → Ξ.1 q) (hR : Rok E) (ha : a ∉ E.2.2.2.1) (ha2 : a < 130) (hkd : kd a = ci) (hc : vwCl[ci]? = some (C, T, N)) (hin : ∀ w ∈ u_ws C T N, w ∈ tT) (hty : ∀ j, j < N → parseFieldDescriptor (T j).2.2.1 = some (ty0 j)) (hfs : ∀ (F : Ev) (τ : St), F.2.2.2.2 a = (fun _ => false) → τ.1 a = (fun _ => 0) → τ.2 a = (fun _ => 0) → ∀ j, j < N → defaultValue (ty0 j) = vp_V (flds F τ a) j) (hown : μ.1.cls = own) (hw1 : Cond.classLink own idx C ∈ tT) (hw2 : Cond.instantiable C N ∈ tT) (hw3 : Cond.initialized C ∈ tT) (hcell : Ξ.2.1 + 1 ≤ μ.2.2.2.2.cells) (hslot : Ξ.2.2 + N ≤ μ.2.2.2.2.slots) (hd : decode μ.2.1 pc = .ok (.new idx, 3))
    (hcg : ∀ E2, Ext E E2 [a] [] → lvc E2 = lvc E ∧ stc E2 = stc E) (kk : ∀ E2, Ext E E2 [a] [] → Sim Q Γ (Ξ.1, Ξ.2.1 + 1, Ξ.2.2 + N) E2 μ (zr σ a) (pc + 3) (lvc E2) (rV E2 a :: stc E2) (K (zr σ a))) : Sim Q Γ Ξ E μ σ pc lv st (bd (zr σ a) K) := by
  subst hlv
  subst hst
  intro Cc r ho ls H locs hl hP hS
  obtain ⟨hx, hb, hml, hr, hown', hts, hlocks, hK, ⟨hE, hA, hcc, hcs⟩, hKs⟩ := id Cc
  rw [hown] at hown'
  have hci := vwc_no hc
  have hrr : E.2.2.2.2 a = fun _ => false := by
    funext k
    cases h : E.2.2.2.2 a k with
    | false => rfl
    | true => exact absurd (hR a k h).1 ha
  refine va_new (C := C) (T := T) (N := N) (ci := ci) (fs := flds (E.1, E.2.1, E.2.2.1, E.2.2.2.1, E.2.2.2.2) (zr σ a) a) hx hb hts hin ty0 hty hown' (hts _ hw1) (hts _ hw2) (hts _ hw3) hK hP (ws_D hE hA σ) hS hq hc (hfs _ _ hrr (up_s _ _ _) (up_s _ _ _)) hcell hslot hd (fun q H1 hP1 hD1 hS1 => ?_)
  have hx2 := ext_new hE hR ha hD1
  have hfl : flds (E.1, E.2.1, va_up E.2.2.1 a q, E.2.2.2.1 ++ [a], E.2.2.2.2) (zr σ a) a = flds (E.1, E.2.1, E.2.2.1, E.2.2.2.1, E.2.2.2.2) (zr σ a) a := by
    simp only [flds, fv, hrr]
    rfl
  have hco : cont (E.1, E.2.1, va_up E.2.2.1 a q, E.2.2.2.1 ++ [a], E.2.2.2.2) (zr σ a) a = .inr (ci, flds (E.1, E.2.1, E.2.2.1, E.2.2.2.1, E.2.2.2.2) (zr σ a) a) := by rw [cont_o _ _ hkd hci, hfl]
  rw [← hco, ← ws_ext hR σ ha] at hP1
  obtain ⟨g1, g2⟩ := hcg _ hx2
  have hAq : Ξ.1 q := dlast hD1
  have hA2 : ∀ z, AL (E.1, E.2.1, va_up E.2.2.1 a q, E.2.2.2.1 ++ [a], E.2.2.2.2) z → Ξ.1 z := by
    rintro z ⟨b, hb1, rfl⟩
    have hb1 : b ∈ E.2.2.2.1 ++ [a] := hb1
    rw [List.mem_append, List.mem_singleton] at hb1
    rcases hb1 with h | rfl
    · show Ξ.1 (va_up E.2.2.1 a q b)
      rw [up_n _ _ (ne_mem ha h)]; exact hA _ ⟨b, h, rfl⟩
    · show Ξ.1 (va_up E.2.2.1 b q b)
      rw [up_s]; exact hAq
  have hgo := kk _ hx2 (cx_ext Cc hx2 (fun b hb => by simp; omega) hA2 hcell hslot) r ho ls H1 locs (by rw [g1]; exact hl) hP1 hS1
  have e0 : (rV (E.1, E.2.1, va_up E.2.2.1 a q, E.2.2.2.1 ++ [a], E.2.2.2.2) a : Value) = .ref q := by show Value.ref (va_up E.2.2.1 a q a) = _; rw [up_s]
  rw [e0, g2] at hgo
  exact hgo
/-- a new array: its kind by c, its first contents by the plan -/
theorem k_newa {a c : Nat} {n : Int32} {K : St → Option ρ} {atype : ArrayType} {ty : FieldType} (lvc : Ev → List (Nat × Value)) (stc : Ev → List Value) (hlv : lv = lvc E) (hst : st = stc E)
    (hq : ∀ q, Γ.2.2.2.1.heap.size ≤ q → Ξ.1 q) (hR : Rok E) (ha : a ∉ E.2.2.2.1) (ha2 : a < 130) (hkd : kd a = c) (hcase : (c = 11 ∧ ty = .int) ∨ (c = 12 ∧ ty = .long) ∨ (c = 13 ∧ ty = .boolean)) (hty : newarray.typeOf atype = ty) (hw : Cond.arrayClass (newarray.typeOf atype) ∈ tT) (hn : ¬ n < 0) (hN : n.toNatClampNeg = ln a) (hby : ln a * 8 ≤ 536870912) (hcell : Ξ.2.1 + 1 ≤ μ.2.2.2.2.cells) (hslot : Ξ.2.2 + ln a ≤ μ.2.2.2.2.slots) (hd : decode μ.2.1 pc = .ok (.newarray atype, 2))
    (hcg : ∀ E2, Ext E E2 [a] [] → lvc E2 = lvc E ∧ stc E2 = stc E) (kk : ∀ E2, Ext E E2 [a] [] → Sim Q Γ (Ξ.1, Ξ.2.1 + 1, Ξ.2.2 + ln a) E2 μ (zr σ a) (pc + 2) (lvc E2) (rV E2 a :: stc E2) (K (zr σ a))) : Sim Q Γ Ξ E μ σ pc lv (.int n :: st) (bd (zr σ a) K) := by
  subst hlv
  subst hst
  intro Cc r ho ls H locs hl hP hS
  obtain ⟨hx, hb, hml, hr, hown', hts, hlocks, hK, ⟨hE, hA, hcc, hcs⟩, hKs⟩ := id Cc
  have z1 : (zr σ a).1 a = fun _ => 0 := up_s _ _ _
  have z2 : (zr σ a).2 a = fun _ => 0 := up_s _ _ _
  -- the first contents
  obtain ⟨a0, cA0, t0, h0, h1, h2, h3⟩ : ∃ (a0 : vp_A) (cA0 : ClassId) (t0 : Nat), (∀ cA : ClassId, vp_cell cA a0 = arrV cA (ln a) (fun _ => defaultValue ty)) ∧ (∀ q, cont (E.1, E.2.1, va_up E.2.2.1 a q, E.2.2.2.1 ++ [a], E.2.2.2.2) (zr σ a) a = .inl (cA0, a0)) ∧ (tys E)[t0]? = some (cA0, ty) ∧ ln a * componentBytes ty ≤ 536870912 := by
    rcases hcase with ⟨rfl, rfl⟩ | ⟨rfl, rfl⟩ | ⟨rfl, rfl⟩
    · refine ⟨(ln a, .inl (fun _ => 0)), E.2.1 11, 0, fun cA => rfl, fun q => ?_, rfl, ?_⟩
      · rw [cont_i _ _ hkd, z1]
      · show ln a * 4 ≤ _; omega
    · refine ⟨(ln a, .inr (.inl (fun _ => 0))), E.2.1 12, 1, fun cA => rfl, fun q => ?_, rfl, ?_⟩
      · rw [cont_l _ _ hkd, z2]
      · show ln a * 8 ≤ _; omega
    · refine ⟨(ln a, .inl (fun _ => 0)), E.2.1 13, 2, fun cA => rfl, fun q => ?_, rfl, ?_⟩
      · rw [cont_z _ _ hkd, z1]
      · show ln a * 1 ≤ _; omega
  refine va_newa hx hb (hts _ hw) hty hK hP (ws_D hE hA σ) hS hq h0 hn hN h3 hcell hslot hd (fun q cA H1 hK1 hP1 hD1 hS1 => ?_)
  have hcA : cA = cA0 := by
    have k1 := (hK1.2 (tys E).length (cA, ty) (by simp)).2
    have k2 := (hK.2 t0 (cA0, ty) h2).2
    rcases hcase with ⟨-, rfl⟩ | ⟨-, rfl⟩ | ⟨-, rfl⟩ <;> exact Option.some.inj (k1.symm.trans k2)
  subst hcA
  have hx2 := ext_new hE hR ha hD1
  rw [← h1 q, ← ws_ext hR σ ha] at hP1
  obtain ⟨g1, g2⟩ := hcg _ hx2
  have hAq : Ξ.1 q := dlast hD1
  have hA2 : ∀ z, AL (E.1, E.2.1, va_up E.2.2.1 a q, E.2.2.2.1 ++ [a], E.2.2.2.2) z → Ξ.1 z := by
    rintro z ⟨b, hb1, rfl⟩
    have hb1 : b ∈ E.2.2.2.1 ++ [a] := hb1
    rw [List.mem_append, List.mem_singleton] at hb1
    rcases hb1 with h | rfl
    · show Ξ.1 (va_up E.2.2.1 a q b)
      rw [up_n _ _ (ne_mem ha h)]; exact hA _ ⟨b, h, rfl⟩
    · show Ξ.1 (va_up E.2.2.1 b q b)
      rw [up_s]; exact hAq
  have hgo := kk _ hx2 (cx_ext Cc hx2 (fun b hb => by simp; omega) hA2 hcell hslot) r ho ls H1 locs (by rw [g1]; exact hl) hP1 hS1
  have e0 : (rV (E.1, E.2.1, va_up E.2.2.1 a q, E.2.2.2.1 ++ [a], E.2.2.2.2) a : Value) = .ref q := by show Value.ref (va_up E.2.2.1 a q a) = _; rw [up_s]
  rw [e0, g2] at hgo
  exact hgo
theorem k_newq {own C : String} {a c idx t0 : Nat} {n : Int32} {K : St → Option ρ} (lvc : Ev → List (Nat × Value)) (stc : Ev → List Value) (hlv : lv = lvc E) (hst : st = stc E)
    (hq : ∀ q, Γ.2.2.2.1.heap.size ≤ q → Ξ.1 q) (hR : Rok E) (ha : a ∉ E.2.2.2.1) (ha2 : a < 130) (hkd : kd a = c) (hc14 : 14 ≤ c) (ht0 : (tys E)[t0]? = some (E.2.1 c, .object C)) (hover : Cx Γ Ξ E μ → va_AO C Γ.2.2.2.1) (hown : μ.1.cls = own) (hw : Cond.classLink own idx C ∈ tT) (hn : ¬ n < 0) (hN : n.toNatClampNeg = ln a) (hby : ln a * 4 ≤ 536870912) (hcell : Ξ.2.1 + 1 ≤ μ.2.2.2.2.cells) (hslot : Ξ.2.2 + ln a ≤ μ.2.2.2.2.slots) (hd : decode μ.2.1 pc = .ok (.anewarray idx, 3))
    (hcg : ∀ E2, Ext E E2 [a] [] → lvc E2 = lvc E ∧ stc E2 = stc E) (kk : ∀ E2, Ext E E2 [a] [] → Sim Q Γ (Ξ.1, Ξ.2.1 + 1, Ξ.2.2 + ln a) E2 μ (zr σ a) (pc + 3) (lvc E2) (rV E2 a :: stc E2) (K (zr σ a))) : Sim Q Γ Ξ E μ σ pc lv (.int n :: st) (bd (zr σ a) K) := by
  subst hlv
  subst hst
  intro Cc r ho ls H locs hl hP hS
  obtain ⟨hx, hb, hml, hr, hown', hts, hlocks, hK, ⟨hE, hA, hcc, hcs⟩, hKs⟩ := id Cc
  rw [hown] at hown'
  have hrr : E.2.2.2.2 a = fun _ => false := by
    funext k
    cases h : E.2.2.2.2 a k with
    | false => rfl
    | true => exact absurd (hR a k h).1 ha
  refine va_newq hx hb hown' (hts _ hw) (hover Cc) hK hP (ws_D hE hA σ) hS hq hn hN hby hcell hslot hd (fun q cA H1 hK1 hP1 hD1 hS1 => ?_)
  have hcA : cA = E.2.1 c := by
    obtain ⟨_, _, _, _, _, k1⟩ := (hK1.2 (tys E).length (cA, .object C) (by simp)).2
    obtain ⟨_, _, _, _, _, k2⟩ := (hK.2 t0 (E.2.1 c, .object C) ht0).2
    exact Option.some.inj (k1.symm.trans k2)
  subst hcA
  have hx2 := ext_new hE hR ha hD1
  have h1 : cont (E.1, E.2.1, va_up E.2.2.1 a q, E.2.2.2.1 ++ [a], E.2.2.2.2) (zr σ a) a = .inl (E.2.1 c, ln a, .inr (.inr (.inr (.inr (fun _ => none))))) := by
    rw [cont_q _ _ hkd hc14]
    simp only [hrr]
    simp
  rw [← h1, ← ws_ext hR σ ha] at hP1
  obtain ⟨g1, g2⟩ := hcg _ hx2
  have hAq : Ξ.1 q := dlast hD1
  have hA2 : ∀ z, AL (E.1, E.2.1, va_up E.2.2.1 a q, E.2.2.2.1 ++ [a], E.2.2.2.2) z → Ξ.1 z := by
    rintro z ⟨b, hb1, rfl⟩
    have hb1 : b ∈ E.2.2.2.1 ++ [a] := hb1
    rw [List.mem_append, List.mem_singleton] at hb1
    rcases hb1 with h | rfl
    · show Ξ.1 (va_up E.2.2.1 a q b)
      rw [up_n _ _ (ne_mem ha h)]; exact hA _ ⟨b, h, rfl⟩
    · show Ξ.1 (va_up E.2.2.1 b q b)
      rw [up_s]; exact hAq
  have hgo := kk _ hx2 (cx_ext Cc hx2 (fun b hb => by simp; omega) hA2 hcell hslot) r ho ls H1 locs (by rw [g1]; exact hl) hP1 hS1
  have e0 : (rV (E.1, E.2.1, va_up E.2.2.1 a q, E.2.2.2.1 ++ [a], E.2.2.2.2) a : Value) = .ref q := by show Value.ref (va_up E.2.2.1 a q a) = _; rw [up_s]
  rw [e0, g2] at hgo
  exact hgo
end CROWS
end
section
/-- final fields, set in their class's constructor -/
def FLc (own : String) (idx ci k : Nat) (ty : FieldType) : Prop := ∃ (C : String) (T : u_T) (N : Nat) (ty0 : Nat → FieldType), vwCl[ci]? = some (C, T, N) ∧ (∀ w ∈ u_ws C T N, w ∈ tT) ∧ (∀ j, j < N → parseFieldDescriptor (T j).2.2.1 = some (ty0 j)) ∧ (∀ a, a < N → ∀ b, b < N → a ≠ b → (T a).2.1 ≠ (T b).2.1) ∧ k < N ∧ Cond.fieldLink own idx (T k).1 (T k).2.1 (T k).2.2.1 ∈ tT ∧ (T k).2.2.2 = true ∧ ty0 k = ty ∧ ci < 11 ∧ (T k).1 = own
def mkr (E : Ev) (a k : Nat) : Ev := (E.1, E.2.1, E.2.2.1, E.2.2.2.1, fun b j => E.2.2.2.2 b j || decide ((b, j) ∈ [(a, k)]))
theorem mkr_n (E : Ev) {a k b j : Nat} (h : ¬ (b = a ∧ j = k)) : (mkr E a k).2.2.2.2 b j = E.2.2.2.2 b j := by
  show (E.2.2.2.2 b j || decide ((b, j) ∈ [(a, k)])) = _
  have : decide ((b, j) ∈ [(a, k)]) = false := by simpa using h
  rw [this, Bool.or_false]
theorem mkr_s (E : Ev) (a k : Nat) : (mkr E a k).2.2.2.2 a k = true := by
  show (E.2.2.2.2 a k || decide ((a, k) ∈ [(a, k)])) = true
  simp
theorem mkr_ext {E : Ev} (hE : Eok E) (hR : Rok E) {a k : Nat} (ha : a ∈ E.2.2.2.1) (hr : rf a k ∈ E.2.2.2.1) (h3 : ft a k = some 3 → 32 ∈ E.2.2.2.1 ∧ 34 ∈ E.2.2.2.1 ∧ 36 ∈ E.2.2.2.1) : Ext E (mkr E a k) [] [(a, k)] := by
  refine ⟨rfl, rfl, fun _ _ => rfl, (List.append_nil _).symm, fun b j => rfl, hE, fun b j h => ?_⟩
  by_cases hq : b = a ∧ j = k
  · obtain ⟨rfl, rfl⟩ := hq
    exact ⟨ha, hr, h3⟩
  · rw [mkr_n E hq] at h
    exact hR b j h
theorem mkr_cont (E : Ev) (σ : St) {a k b : Nat} (h : b ≠ a) : cont (mkr E a k) σ b = cont E σ b := by
  have hq : ∀ j, (mkr E a k).2.2.2.2 b j = E.2.2.2.2 b j := fun j => mkr_n E (fun q => h q.1)
  unfold cont flds fv
  simp only [hq]
  rfl
theorem mkr_flds (E : Ev) {σ σ' : St} {a k t : Nat} {v : Value} (h : ft a k = some t) (hv : fv (mkr E a k) σ' a t k = v) (hn : ∀ j, j ≠ k → σ'.1 a j = σ.1 a j ∧ σ'.2 a j = σ.2 a j) : flds (mkr E a k) σ' a = (flds E σ a).set k v := by
  apply List.ext_getElem?
  intro j
  by_cases hj : j = k
  · subst hj
    rw [List.getElem?_set_self (flds_len E σ h), flds_get _ σ' h, hv]
  · rw [List.getElem?_set_ne (Ne.symm hj)]
    simp only [flds, List.getElem?_mapIdx, fv, (hn j hj).1, (hn j hj).2, mkr_n E (fun q : a = a ∧ j = k => hj q.2)]
    rfl
theorem ws_mkr {E : Ev} {σ σ' : St} {a k p : Nat} (hE : Eok E) (hk : E.2.2.2.1[p]? = some a) (hc : ∀ b, b ≠ a → σ'.1 b = σ.1 b ∧ σ'.2 b = σ.2 b) : (WS E σ).set p (E.2.2.1 a, cont (mkr E a k) σ' a) = WS (mkr E a k) σ' := by
  apply List.ext_getElem?
  intro j
  by_cases hj : j = p
  · subst hj
    have hl : j < E.2.2.2.1.length := (List.getElem?_eq_some_iff.mp hk).1
    rw [List.getElem?_set_self (by simpa [WS] using hl)]
    have : (mkr E a k).2.2.2.1 = E.2.2.2.1 := rfl
    simp only [WS, this, List.getElem?_map, hk]
    rfl
  · rw [List.getElem?_set_ne (Ne.symm hj)]
    have : (mkr E a k).2.2.2.1 = E.2.2.2.1 := rfl
    simp only [WS, this, List.getElem?_map]
    cases hb : E.2.2.2.1[j]? with
    | none => rfl
    | some b =>
      have hba : b ≠ a := by
        intro e
        subst e
        exact hj (nd_inj _ hE.1 _ _ _ hb hk)
      simp only [Option.map_some, mkr_cont E σ' hba, cont_cg E (hc b hba).1 (hc b hba).2]
      rfl
section CROWS2
variable {ρ : Type} {Q : ρ → State → Prop} {Γ : Gm} {Ξ : Gx} {E : Ev} {μ : Md} {σ : St} {pc : Nat} {lv : List (Nat × Value)} {st : List Value} {o : Option ρ}
/-- a final reference field -/
theorem k_putr {own : String} {idx ci k a : Nat} {ty : FieldType} (lvc : Ev → List (Nat × Value)) (stc : Ev → List Value) (hlv : lv = lvc E) (hst : st = stc E) (hF : FLc own idx ci k ty) (hin : Γ.2.2.2.2.2.2.2.1.name = "<init>") (hown : μ.1.cls = own) (hR : Rok E) (hm : a ∈ E.2.2.2.1) (hmr : rf a k ∈ E.2.2.2.1) (hkd : kd a = ci) (hft : ft a k = some 2) (hn : narrow ty (rV E (rf a k)) = rV E (rf a k)) (hfit : fits ty (rV E (rf a k)) = true) (hd : decode μ.2.1 pc = .ok (.putfield idx, 3))
    (hcg : ∀ E2, Ext E E2 [] [(a, k)] → lvc E2 = lvc E ∧ stc E2 = stc E) (kk : ∀ E2, Ext E E2 [] [(a, k)] → Sim Q Γ Ξ E2 μ σ (pc + 3) (lvc E2) (stc E2) o) : Sim Q Γ Ξ E μ σ pc lv (rV E (rf a k) :: rV E a :: st) o := by
  subst hlv
  subst hst
  intro Cc r ho ls H locs hl hP hS
  obtain ⟨hx, hb, hml, hr, hown', hts, hlocks, hK, ⟨hE, hA, hcc, hcs⟩, hKs⟩ := id Cc
  rw [hown] at hown'
  obtain ⟨C, T, N, ty0, h1, h2, h3, h4, h5, h6, h7, h8, h9, h10⟩ := hF
  obtain ⟨q0, hq0, hq⟩ := ws_get σ hm
  rw [cont_o E σ hkd h9] at hq
  refine va_putF (C := C) (T := T) (N := N) (ci := ci) (ty := ty) hx hb hts h2 ty0 h3 h4 hown' hK hP (ws_D hE hA σ) hS q0 hq h1 k h5 (hts _ h6) (fun _ h => h) h7 hin h10 (by rw [h3 k h5, h8]) hn hfit (flds_len E σ hft) hd (fun H1 locs1 hP1 _ hS1 => ?_)
  have hx2 := mkr_ext (k := k) hE hR hm hmr (fun h => by rw [hft] at h; cases h)
  obtain ⟨g1, g2⟩ := hcg _ hx2
  have hv : fv (mkr E a k) σ a 2 k = rV E (rf a k) := by simp only [fv, mkr_s]; rfl
  have hgo := kk _ hx2 (cx_ext (c := Ξ.2.1) (s := Ξ.2.2) Cc hx2 (fun _ _ h => by cases h) hA hcc hcs) r ho ls H1 locs1 (by rw [g1]; exact hl)
  rw [g2] at hgo
  refine hgo ?_ hS1
  rw [← mkr_flds E hft hv (fun _ _ => ⟨rfl, rfl⟩), ← cont_o (mkr E a k) σ hkd h9, ws_mkr hE hq0 (fun _ _ => ⟨rfl, rfl⟩)] at hP1
  exact hP1
/-- the field that holds a Settings by its number, in the constructor -/
theorem k_putS {own C : String} {idx ci k a j : Nat} {K : St → Option ρ} (lvc : Ev → List (Nat × Value)) (stc : Ev → List Value) (hlv : lv = lvc E) (hst : st = stc E) (hF : FL own idx ci k false (.object C)) (hown : μ.1.cls = own) (hR : Rok E) (hm : a ∈ E.2.2.2.1) (hmr : rf a k ∈ E.2.2.2.1) (h333 : 32 ∈ E.2.2.2.1 ∧ 34 ∈ E.2.2.2.1 ∧ 36 ∈ E.2.2.2.1) (hkd : kd a = ci) (hft : ft a k = some 3) (hj : j < 3) (hd : decode μ.2.1 pc = .ok (.putfield idx, 3))
    (hcg : ∀ E2, Ext E E2 [] [(a, k)] → lvc E2 = lvc E ∧ stc E2 = stc E) (kk : ∀ E2 σ1, Ext E E2 [] [(a, k)] → Sim Q Γ Ξ E2 μ σ1 (pc + 3) (lvc E2) (stc E2) (K σ1)) : Sim Q Γ Ξ E μ σ pc lv (rV E (32 + 2 * j) :: rV E a :: st) (bd (setI σ a k (nI j)) K) := by
  subst hlv
  subst hst
  intro Cc r ho ls H locs hl hP hS
  obtain ⟨hx, hb, hml, hr, hown', hts, hlocks, hK, ⟨hE, hA, hcc, hcs⟩, hKs⟩ := id Cc
  rw [hown] at hown'
  obtain ⟨C, T, N, ty0, h1, h2, h3, h4, h5, h6, h7, h8, h9⟩ := hF
  obtain ⟨q0, hq0, hq⟩ := ws_get σ hm
  rw [cont_o E σ hkd h9] at hq
  refine va_put (C := C) (T := T) (N := N) (ci := ci) hx hb hts h2 ty0 h3 h4 hown' hK hP (ws_D hE hA σ) hS q0 hq h1 k h5 (hts _ h6) (fun _ h => h) h7 (by rw [h3 k h5, h8]) rfl rfl (flds_len E σ hft) hd (fun H1 locs1 hP1 _ hS1 => ?_)
  have hx2 := mkr_ext (k := k) hE hR hm hmr (fun _ => h333)
  obtain ⟨g1, g2⟩ := hcg _ hx2
  have hv : fv (mkr E a k) (setI σ a k (nI j)) a 3 k = rV E (32 + 2 * j) := by
    simp only [fv, mkr_s]
    rw [setI_s]
    simp only [upd, if_true]
    rw [nI_clamp (by omega), Nat.mod_eq_of_lt hj]
    rfl
  have hgo := kk _ _ hx2 (cx_ext (c := Ξ.2.1) (s := Ξ.2.2) Cc hx2 (fun _ _ h => by cases h) hA hcc hcs) r ho ls H1 locs1 (by rw [g1]; exact hl)
  rw [g2] at hgo
  refine hgo ?_ hS1
  rw [← mkr_flds (σ := σ) E hft hv (fun i hi => ⟨by rw [setI_s]; simp [upd, hi], rfl⟩), ← cont_o (mkr E a k) (setI σ a k (nI j)) hkd h9, ws_mkr (σ' := setI σ a k (nI j)) hE hq0 (fun b hb => ⟨setI_n σ k _ hb, rfl⟩)] at hP1
  exact hP1
/-- a final int (boolean) field -/
theorem k_putFi {own : String} {idx ci k a : Nat} {ty : FieldType} {x : Int32} {K : St → Option ρ} (hF : FLc own idx ci k ty) (hin : Γ.2.2.2.2.2.2.2.1.name = "<init>") (hown : μ.1.cls = own) (hm : a ∈ E.2.2.2.1) (hkd : kd a = ci) (hft : ft a k = some 0) (hn : narrow ty (.int x) = .int x) (hfit : fits ty (.int x) = true) (hd : decode μ.2.1 pc = .ok (.putfield idx, 3)) (kk : ∀ σ1, Sim Q Γ Ξ E μ σ1 (pc + 3) lv st (K σ1)) : Sim Q Γ Ξ E μ σ pc lv (.int x :: rV E a :: st) (bd (setI σ a k x) K) := by
  intro Cc r ho ls H locs hl hP hS
  obtain ⟨hx, hb, hml, hr, hown', hts, hlocks, hK, ⟨hE, hA, hcc, hcs⟩, hKs⟩ := id Cc
  rw [hown] at hown'
  obtain ⟨C, T, N, ty0, h1, h2, h3, h4, h5, h6, h7, h8, h9, h10⟩ := hF
  obtain ⟨q0, hq0, hq⟩ := ws_get σ hm
  rw [cont_o E σ hkd h9] at hq
  refine va_putF (C := C) (T := T) (N := N) (ci := ci) (ty := ty) hx hb hts h2 ty0 h3 h4 hown' hK hP (ws_D hE hA σ) hS q0 hq h1 k h5 (hts _ h6) (fun _ h => h) h7 hin h10 (by rw [h3 k h5, h8]) hn hfit (flds_len E σ hft) hd (fun H1 locs1 hP1 _ hS1 => ?_)
  refine kk _ Cc r ho ls H1 locs1 hl ?_ hS1
  have hv : fv E (setI σ a k x) a 0 k = .int x := by show Value.int ((setI σ a k x).1 a k) = _; rw [setI_s]; simp [upd]
  rw [← flds_set (σ := σ) E hft hv (fun j hj => ⟨by rw [setI_s]; simp [upd, hj], rfl⟩), ← cont_o E (setI σ a k x) hkd h9, ws_set (σ := σ) (σ' := setI σ a k x) hE hq0 (fun b hb => cont_cg E (setI_n σ k x hb) rfl)] at hP1
  exact hP1
/-- an object into a row of objects -/
theorem k_ast {a b c j n ci t0 : Nat} {i : Int32} {q : vw_C} (lvc : Ev → List (Nat × Value)) (stc : Ev → List Value) (hlv : lv = lvc E) (hst : st = stc E) (hR : Rok E) (hm : a ∈ E.2.2.2.1) (hmb : b ∈ E.2.2.2.1) (hkd : kd a = c) (hc14 : 14 ≤ c) (ht0 : (tys E)[t0]? = some (E.2.1 c, .object q.1)) (hkb : kd b = ci) (hq : vwCl[ci]? = some q) (hn : ln a = n) (hi : i = nI j) (hj : j < n) (hn31 : n < 2 ^ 31) (hrf : rf a j = b) (hft : ft a j = none) (hd : decode μ.2.1 pc = .ok (.aastore, 1))
    (hcg : ∀ E2, Ext E E2 [] [(a, j)] → lvc E2 = lvc E ∧ stc E2 = stc E) (kk : ∀ E2, Ext E E2 [] [(a, j)] → Sim Q Γ Ξ E2 μ σ (pc + 1) (lvc E2) (stc E2) o) : Sim Q Γ Ξ E μ σ pc lv (rV E b :: .int i :: rV E a :: st) o := by
  subst hlv
  subst hst
  subst hn
  subst hi
  subst hrf
  intro Cc r ho ls H locs hl hP hS
  obtain ⟨hx, hb, hml, hr, hown', hts, hlocks, hK, ⟨hE, hA, hcc, hcs⟩, hKs⟩ := id Cc
  obtain ⟨q0, hq0, hqa⟩ := ws_get σ hm
  rw [cont_q E σ hkd hc14] at hqa
  obtain ⟨q1, hq1, hqb⟩ := ws_get σ hmb
  rw [cont_o E σ hkb (vwc_no hq)] at hqb
  refine va_astq hx hb hK hP (ws_D hE hA σ) hS q0 t0 q1 ci hqa ht0 hqb hq (vp_in_nI hj hn31) hd (fun H1 locs1 hP1 _ hS1 => ?_)
  rw [nI_clamp (by omega)] at hP1
  have hx2 := mkr_ext (k := j) hE hR hm hmb (fun h => by rw [hft] at h; cases h)
  obtain ⟨g1, g2⟩ := hcg _ hx2
  have hgo := kk _ hx2 (cx_ext (c := Ξ.2.1) (s := Ξ.2.2) Cc hx2 (fun _ _ h => by cases h) hA hcc hcs) r ho ls H1 locs1 (by rw [g1]; exact hl)
  rw [g2] at hgo
  refine hgo ?_ hS1
  have hco : cont (mkr E a j) σ a = .inl (E.2.1 c, ln a, .inr (.inr (.inr (.inr (va_up (fun j => if E.2.2.2.2 a j = true then some (E.2.2.1 (rf a j)) else none) j (some (E.2.2.1 (rf a j)))))))) := by
    rw [cont_q _ _ hkd hc14]
    congr 7
    funext i
    by_cases e : i = j
    · subst e
      rw [up_s, mkr_s, if_pos rfl]
      rfl
    · rw [up_n _ _ e, mkr_n E (fun q => e q.2)]
      rfl
  rw [← hco, ws_mkr hE hq0 (fun _ _ => ⟨rfl, rfl⟩)] at hP1
  exact hP1
end CROWS2
/-- a constructor's contract -/
def QC (E : Ev) (news : List Nat) (rrs : List (Nat × Nat)) (σ' : St) (sz : Nat) : Array Value → State → Outcome → State → Prop := fun _ st oc t => (oc = .returned none ∧ ∃ E', Ext E E' news rrs ∧ (∀ q, AL E' q → AX E sz q) ∧ va_P E'.1 vwCl (WS E' σ') t.heap) ∧ va_F (AX E sz) st t
def PcX (E : Ev) (As : List Value) (σ : St) (sz : Nat) : Array Value → State → Prop := va_Pc As (fun U => U.heap.size = sz ∧ va_P E.1 vwCl (WS E σ) U.heap ∧ va_K E.1 vwCl (tys E) U ∧ Ks E (AX E sz) U U.heap)
def CtrC (l : Launch) (E : Ev) (μ : Md) (As : List Value) (σ : St) (o : Option St) (news : List Nat) (rrs : List (Nat × Nat)) : Prop :=
  Eok E → Rok E → ∀ r, o = some r → ∀ sz, Met l μ.1 (.code μ.1 μ.2.1 μ.2.2.1 μ.2.2.2.1 :: tT) μ.2.2.2.2 (PcX E As σ sz) (QC E news rrs r sz) μ.2.2.2.2.cells μ.2.2.2.2.slots (AX E sz)
def qC (Γ : Gm) (E : Ev) (news : List Nat) (rrs : List (Nat × Nat)) (sz mc ms : Nat) : St → State → Prop := fun r => MQ Γ.2.2.2.2.2.2.1 (QC E news rrs r sz) Γ.2.2.2.2.2.1 Γ.2.2.2.1 mc ms (AX E sz)
theorem ctrC_of {l : Launch} {E : Ev} {μ : Md} {As : List Value} {σ : St} {o : Option St} {news : List Nat} {rrs : List (Nat × Nat)} (hy : plainName μ.1.cls = true) (hin : μ.1.name = "<init>") (hn : (lg_sl As).length ≤ μ.2.2.1)
    (h : ∀ (Γ : Gm) (sz : Nat), Γ.2.2.2.2.2.2.2.1.name = "<init>" → Eok E → Rok E → (∀ q, Γ.2.2.2.1.heap.size ≤ q → AX E sz q) → Sim (qC Γ E news rrs sz μ.2.2.2.2.cells μ.2.2.2.2.slots) Γ (AX E sz, 0, 0) E μ σ 0 (lv_args 0 As) [] o) : CtrC l E μ As σ o news rrs := by
  intro hE hR r ho sz
  refine Met.ofW (cc := μ.2.1) (maxL := μ.2.2.1) (ret := μ.2.2.2.1) hy rfl ?_
  intro p e s m args below meth c s₁ B hml hv
  obtain ⟨rfl, hsz, hP, hK, hKs⟩ := hv
  have hts : ∀ w ∈ tT, w.before As.toArray s = true := fun w hw => atoms_spec (ws := .code μ.1 μ.2.1 μ.2.2.1 μ.2.2.2.1 :: tT) B.pre w (List.mem_cons_of_mem _ hw)
  have hl := lv_entry As hn
  have hnm : meth.name = "<init>" := by rw [(name_of_methodNamed B.named B.method).1]; exact hin
  rw [lg_entry_eq]
  exact h (p, l, e, s, m, As.toArray, below, meth, c) sz hnm hE hR (fun q hq => Or.inr (by rw [← hsz]; exact hq)) ⟨B.exec, B.bytes, hml, B.returns, findClass_of_methodNamed B.named, hts, B.notSynchronized, hK, ⟨hE, fun _ h => Or.inl h, Nat.zero_le _, Nat.zero_le _⟩, hKs⟩ r ho _ s.heap [] hl hP va_S.rf
theorem k_ret {Γ : Gm} {Ξ : Gx} {E E1 : Ev} {μ : Md} {σ : St} {pc sz mc ms : Nat} {lv : List (Nat × Value)} {news : List Nat} {rrs : List (Nat × Nat)} (hr : μ.2.2.2.1 = none) (hX : Ξ.1 = AX E sz) (hc : Ξ.2.1 = mc) (hs : Ξ.2.2 = ms) (hE : Ext E E1 news rrs) (hd : decode μ.2.1 pc = .ok (.return_, 1)) : Sim (qC Γ E news rrs sz mc ms) Γ Ξ E1 μ σ pc lv [] (some σ) := by
  subst hc
  subst hs
  intro Cc r ho ls H locs hl hP hS
  cases ho
  obtain ⟨hx, hb, hml, hr', hown', hts, hlocks, hK, ⟨hE1, hA, hcc, hcs⟩, hKs⟩ := id Cc
  rw [hX] at hS hA
  exact W.vret hx hb (hr'.trans hr) (fun t ht hW => ⟨⟨rfl, E1, hE, hA, by rw [ht]; exact hP⟩, hS.F ht⟩) hS.2.2 hd hlocks
theorem PcX_blind (E : Ev) (As : List Value) (σ : St) (sz : Nat) : FrameBlind (PcX E As σ sz) := fun a U g mk q => by
  obtain ⟨q0, qz, qP, qK, qs⟩ := q
  exact ⟨q0, qz, qP, va_K.moved (u := U) (U := U.calling g mk a) (Vm.Alike.refl U.vm) qK, Kt.same (u := U) (U := U.calling g mk a) rfl qs⟩
section CCALL
variable {p : Program} {l : Launch} {e : Env} {R : Room} {s : State} {m : MethodId} {args : Array Value} {below : List Frame} {meth : Method} {c : Code} {H : Heap} {locs : List Loc} {cells slots mc ms : Nat} {Q : State → Prop}
variable {pc : Nat} {ls : Array Slot} {rest st0 : List Value} {a : Array Value} {A0 : Nat → Prop} {H0 : Heap} {E : Ev} {σ' : St} {news : List Nat} {rrs : List (Nat × Nat)}
theorem sv_callC (hr : va_Run p l e R s m args below meth c H locs cells slots mc ms (F0 m pc ls st0) rest (QC E news rrs σ' H.size a) (AX E H.size)) (hS : va_S A0 H0 H locs) (hA : ∀ q, AX E H.size q → A0 q)
    (kk : ∀ (E1 : Ev) (H1 : Heap) (locs1 : List Loc), Ext E E1 news rrs → (∀ q, AL E1 q → A0 q) → va_P E1.1 vwCl (WS E1 σ') H1 → va_S A0 H0 H1 locs1 → W p l e R s m args below meth c H1 locs1 (cells + mc) (slots + ms) Q (F0 m (pc + 3) ls rest)) : W p l e R s m args below meth c H locs cells slots Q (F0 m pc ls st0) := by
  intro T hT X
  obtain ⟨v, st₀, t, T', L, h0, X', hL, e1, e2, ⟨⟨hv, E1, hE1, hA1, hb⟩, hz, hk⟩, st⟩ := hr T hT X
  cases hv
  rw [h0] at hz hk
  obtain ⟨t2, a1, b1⟩ := kk E1 T'.heap (locs ++ L) hE1 (fun q hq => hA q (hA1 q hq)) (by rw [e1]; exact hb)
    ⟨Nat.le_trans hS.1 (by rw [e1]; exact hz), fun q h1 h2 => by rw [e1, hk q (Nat.lt_of_lt_of_le h1 hS.1) (fun z => h2 (hA q z))]; exact hS.2.1 q h1 h2, fun q hq => by
      rcases List.mem_append.mp hq with h | h
      · exact hS.2.2 q h
      · exact hA _ (hL q h)⟩ T' rfl X'
  exact ⟨t2, st t2 a1, b1⟩
end CCALL
/-- what a call of a constructor needs to know of it -/
def IF (μ : Md) (np : Nat) : Prop := μ.1.cls ≠ "java/lang/invoke/MethodHandle" ∧ μ.1.cls ≠ "java/lang/invoke/VarHandle" ∧ (parseMethodDescriptor μ.1.desc).map (fun d => d.parameters.length) = some np ∧ Cond.code μ.1 μ.2.1 μ.2.2.1 μ.2.2.2.1 ∈ tT ∧ Cond.initialized μ.1.cls ∈ tT ∧ μ.1.name = "<init>" ∧ Cond.instanceMethod μ.1 ∈ tT ∧ μ.2.2.2.1 = none
section CCALL2
variable {ρ : Type} {Q : ρ → State → Prop} {Γ : Gm} {Ξ : Gx} {E : Ev} {μ μ' : Md} {σ : St} {pc np idx b : Nat} {lv : List (Nat × Value)} {st As rest : List Value} {f : Option St} {K : St → Option ρ} {news : List Nat} {rrs : List (Nat × Nat)}
theorem words_I (hM : IF μ' np) : GoodIn tT (.code μ'.1 μ'.2.1 μ'.2.2.1 μ'.2.2.2.1 :: tT) := tG (fun w hw => by
  rcases List.mem_cons.mp hw with rfl | h
  · exact hM.2.2.2.1
  · exact h)
theorem k_call0 (lvc : Ev → List (Nat × Value)) (stc : Ev → List Value) (hlv : lv = lvc E) (hrest : rest = stc E) (hn130 : ∀ b, 130 ≤ b → b ∉ news) (hM : IF μ' np) (hq : ∀ q, Γ.2.2.2.1.heap.size ≤ q → Ξ.1 q) (hRo : Rok E)
    (hlink : Cx Γ Ξ E μ → (CallB μ.2.2.2.2 Γ.2.2.2.1 Γ.2.2.2.2.2.1 μ.1.cls idx μ'.1 μ'.2.1 μ'.2.2.1 none (.code μ'.1 μ'.2.1 μ'.2.2.1 μ'.2.2.2.1 :: tT) μ'.2.2.2.2 μ'.2.2.2.2.cells μ'.2.2.2.2.slots np) ∨ ∃ host, va_CN μ.2.2.2.2 Γ.2.2.2.1 Γ.2.2.2.2.2.1 μ.1.cls idx μ'.1 host μ'.2.1 μ'.2.2.1 none (.code μ'.1 μ'.2.1 μ'.2.2.1 μ'.2.2.2.1 :: tT) μ'.2.2.2.2 μ'.2.2.2.2.cells μ'.2.2.2.2.slots np)
    (hC : CtrC Γ.2.1 E μ' (rV E b :: As) σ f news rrs) (hn : As.length = np) (hst : st = As.reverse ++ rV E b :: rest) (hW : (rest.map fun v => v.category).sum ≤ 8) (hcell : Ξ.2.1 + μ'.2.2.2.2.cells ≤ μ.2.2.2.2.cells) (hslot : Ξ.2.2 + μ'.2.2.2.2.slots ≤ μ.2.2.2.2.slots) (hd : decode μ.2.1 pc = .ok (.invokespecial idx, 3))
    (hcg : ∀ E2, Ext E E2 news rrs → lvc E2 = lvc E ∧ stc E2 = stc E) (kk : ∀ E2 σ1, Ext E E2 news rrs → Sim Q Γ (Ξ.1, Ξ.2.1 + μ'.2.2.2.2.cells, Ξ.2.2 + μ'.2.2.2.2.slots) E2 μ σ1 (pc + 3) (lvc E2) (stc E2) (K σ1)) : Sim Q Γ Ξ E μ σ pc lv st (f.bind K) := by
  subst hlv
  subst hrest
  intro Cc r ho ls H locs hl hP hS
  obtain ⟨σ1, hf, ho2⟩ := Option.bind_eq_some_iff.mp ho
  obtain ⟨hx, hb, hml, hr', hown', hts, hlocks, hK, ⟨hE, hA, hcc, hcs⟩, hKs⟩ := id Cc
  have hAX : ∀ q, AX E H.size q → Ξ.1 q := fun q h => h.elim (hA q) (fun h => hq q (Nat.le_trans hS.1 h))
  have hpre : PreS Γ.2.2.2.1 H (PcX E (rV E b :: As) σ H.size) (.ref (E.2.2.1 b) :: As) := ⟨PcX_blind E _ σ _, fun U hU hW => ⟨rfl, by rw [hU], by rw [hU]; exact hP, va_K.moved hW.alike hK, by rw [hU]; exact ((Kt.kept hS.2.1 hKs).warm hW).narrow hAX⟩⟩
  have hrun : va_Run Γ.1 Γ.2.1 Γ.2.2.1 μ.2.2.2.2 Γ.2.2.2.1 Γ.2.2.2.2.1 Γ.2.2.2.2.2.1 Γ.2.2.2.2.2.2.1 Γ.2.2.2.2.2.2.2.1 Γ.2.2.2.2.2.2.2.2 H locs Ξ.2.1 Ξ.2.2 μ'.2.2.2.2.cells μ'.2.2.2.2.slots (F0 Γ.2.2.2.2.1 pc ls st) (stc E) (QC E news rrs σ1 H.size (Value.ref (E.2.2.1 b) :: As).toArray) (AX E H.size) := by
    rcases hlink Cc with h | ⟨host, h⟩
    · exact va_runI (As := As) (rest := stc E) (b := E.2.2.1 b) ⟨hx, hb, hml, hown', hts⟩ (hC hE hRo σ1 hf H.size) ⟨h, hM.2.2.2.2.2.1, hts _ hM.2.2.2.2.2.2.1⟩ hpre rfl hn hl.1 hst (lv_room hW) hd ⟨hcell, hslot⟩
    · exact va_runIN (As := As) (rest := stc E) (b := E.2.2.1 b) ⟨hx, hb, hml, hown', hts⟩ (hC hE hRo σ1 hf H.size) ⟨h, hM.2.2.2.2.2.1, hts _ hM.2.2.2.2.2.2.1⟩ hpre rfl hn hl.1 hst (lv_room hW) hd ⟨hcell, hslot⟩
  refine sv_callC hrun hS hAX (fun E1 H1 locs1 hx2 hA1 hP1 hS1 => ?_)
  obtain ⟨g1, g2⟩ := hcg _ hx2
  have hgo := kk E1 σ1 hx2 (cx_ext Cc hx2 hn130 hA1 hcell hslot) r ho2 ls H1 locs1 (by rw [g1]; exact hl) hP1 hS1
  rw [g2] at hgo
  exact hgo
theorem k_call (lvc : Ev → List (Nat × Value)) (stc : Ev → List Value) (hlv : lv = lvc E) (hrest : rest = stc E) (hn130 : ∀ b, 130 ≤ b → b ∉ news) (hM : IF μ' np) (hq : ∀ q, Γ.2.2.2.1.heap.size ≤ q → Ξ.1 q) (hRo : Rok E) (hL : Cond.methodLink μ.1.cls idx μ'.1 ∈ tT) (hR : rOk μ.2.2.2.2 μ'.2.2.2.2 μ'.2.2.1 = true)
    (hC : CtrC Γ.2.1 E μ' (rV E b :: As) σ f news rrs) (hn : As.length = np) (hst : st = As.reverse ++ rV E b :: rest) (hW : (rest.map fun v => v.category).sum ≤ 8) (hcell : Ξ.2.1 + μ'.2.2.2.2.cells ≤ μ.2.2.2.2.cells) (hslot : Ξ.2.2 + μ'.2.2.2.2.slots ≤ μ.2.2.2.2.slots) (hd : decode μ.2.1 pc = .ok (.invokespecial idx, 3))
    (hcg : ∀ E2, Ext E E2 news rrs → lvc E2 = lvc E ∧ stc E2 = stc E) (kk : ∀ E2 σ1, Ext E E2 news rrs → Sim Q Γ (Ξ.1, Ξ.2.1 + μ'.2.2.2.2.cells, Ξ.2.2 + μ'.2.2.2.2.slots) E2 μ σ1 (pc + 3) (lvc E2) (stc E2) (K σ1)) : Sim Q Γ Ξ E μ σ pc lv st (f.bind K) :=
  k_call0 lvc stc hlv hrest hn130 hM hq hRo (fun Cc => Or.inl (by
    obtain ⟨hx, hb, hml, hr', hown', hts, hlocks, hK, ⟨hE, hA, hcc, hcs⟩, hKs⟩ := id Cc
    exact callB_of np hts (words_I hM) (by rw [hM.2.2.2.2.2.2.2]) rfl rfl (hts _ hM.2.2.2.2.1) (hts _ hL) ⟨hM.1, hM.2.1, hM.2.2.1⟩ (rOk_1 hR))) hC hn hst hW hcell hslot hd hcg kk
theorem k_callN {host : String} (lvc : Ev → List (Nat × Value)) (stc : Ev → List Value) (hlv : lv = lvc E) (hrest : rest = stc E) (hn130 : ∀ b, 130 ≤ b → b ∉ news) (hM : IF μ' np) (hq : ∀ q, Γ.2.2.2.1.heap.size ≤ q → Ξ.1 q) (hRo : Rok E) (hL : Cond.methodLinkNest μ.1.cls idx μ'.1 host ∈ nestW) (hR : rOk μ.2.2.2.2 μ'.2.2.2.2 μ'.2.2.1 = true)
    (hC : CtrC Γ.2.1 E μ' (rV E b :: As) σ f news rrs) (hn : As.length = np) (hst : st = As.reverse ++ rV E b :: rest) (hW : (rest.map fun v => v.category).sum ≤ 8) (hcell : Ξ.2.1 + μ'.2.2.2.2.cells ≤ μ.2.2.2.2.cells) (hslot : Ξ.2.2 + μ'.2.2.2.2.slots ≤ μ.2.2.2.2.slots) (hd : decode μ.2.1 pc = .ok (.invokespecial idx, 3))
    (hcg : ∀ E2, Ext E E2 news rrs → lvc E2 = lvc E ∧ stc E2 = stc E) (kk : ∀ E2 σ1, Ext E E2 news rrs → Sim Q Γ (Ξ.1, Ξ.2.1 + μ'.2.2.2.2.cells, Ξ.2.2 + μ'.2.2.2.2.slots) E2 μ σ1 (pc + 3) (lvc E2) (stc E2) (K σ1)) : Sim Q Γ Ξ E μ σ pc lv st (f.bind K) :=
  k_call0 lvc stc hlv hrest hn130 hM hq hRo (fun Cc => Or.inr ⟨host, by
    obtain ⟨hx, hb, hml, hr', hown', hts, hlocks, hK, ⟨hE, hA, hcc, hcs⟩, hKs⟩ := id Cc
    exact va_cnB np hts (words_I hM) (by rw [hM.2.2.2.2.2.2.2]) rfl rfl (hKs.1 _ hL) (hts _ hM.2.2.2.2.1) ⟨hM.1, hM.2.1, hM.2.2.1⟩ (rOk_1 hR)⟩) hC hn hst hW hcell hslot hd hcg kk
end CCALL2
section KNOWN
variable {ρ : Type} {Q : ρ → State → Prop} {Γ : Gm} {Ξ : Gx} {E : Ev} {μ : Md} {σ : St} {pc : Nat} {lv : List (Nat × Value)} {st : List Value} {o : Option ρ}
theorem s_no : Sim Q Γ Ξ E μ σ pc lv st none := fun _ _ h => by cases h
theorem s_icmp_gtT {x y : Int32} {off : Int} (tgt : Nat) (h : y < x) (hd : decode μ.2.1 pc = .ok (.if_icmp .gt off, 3)) (ht : (pc : Int) + off = (tgt : Int)) (k : Sim Q Γ Ξ E μ σ tgt lv st o) : Sim Q Γ Ξ E μ σ pc lv (.int y :: .int x :: st) o :=
  s_eq (o' := if y < x then o else none) (by rw [if_pos h]) (s_icmp_gt tgt hd ht k s_no)
theorem s_icmp_gtF {x y : Int32} {off : Int} (tgt : Nat) (h : ¬ y < x) (hd : decode μ.2.1 pc = .ok (.if_icmp .gt off, 3)) (ht : (pc : Int) + off = (tgt : Int)) (k : Sim Q Γ Ξ E μ σ (pc + 3) lv st o) : Sim Q Γ Ξ E μ σ pc lv (.int y :: .int x :: st) o :=
  s_eq (o' := if y < x then none else o) (by rw [if_neg h]) (s_icmp_gt tgt hd ht s_no k)
end KNOWN
end
section
theorem i_vc : Claimed_1_1 ∧ Claimed_1_2 := sorry
end

section
/-- a private method of a class that the tables say can be made, by its rows of tables_1 -/
def lw_okq (q : MethodName × Nat) : Prop := (q.1.cls ≠ "java/lang/invoke/MethodHandle" ∧ q.1.cls ≠ "java/lang/invoke/VarHandle") ∧ Cond.instantiable q.1.cls q.2 ∈ tables_1 ∧ Cond.privateMethod q.1 ∈ tables_1 ∧ Cond.instanceMethod q.1 ∈ tables_1
theorem lw_p0 : lw_okq (⟨"RunnerNet$Text", "readLine", "(I)Z"⟩, 9) := ⟨⟨by decide +kernel, by decide +kernel⟩, List.mem_of_getElem? (i := 64) (by decide +kernel), List.mem_of_getElem? (i := 340) (by decide +kernel), List.mem_of_getElem? (i := 341) (by decide +kernel)⟩
theorem lw_p1 : lw_okq (⟨"RunnerNet$Text", "nextToken", "()V"⟩, 9) := ⟨⟨by decide +kernel, by decide +kernel⟩, List.mem_of_getElem? (i := 64) (by decide +kernel), List.mem_of_getElem? (i := 344) (by decide +kernel), List.mem_of_getElem? (i := 345) (by decide +kernel)⟩
theorem lw_p2 : lw_okq (⟨"RunnerNet$Text", "byteAt", "(I)I"⟩, 9) := ⟨⟨by decide +kernel, by decide +kernel⟩, List.mem_of_getElem? (i := 64) (by decide +kernel), List.mem_of_getElem? (i := 348) (by decide +kernel), List.mem_of_getElem? (i := 349) (by decide +kernel)⟩
theorem lw_p3 : lw_okq (⟨"RunnerNet$Text", "kindAt", "(I)I"⟩, 9) := ⟨⟨by decide +kernel, by decide +kernel⟩, List.mem_of_getElem? (i := 64) (by decide +kernel), List.mem_of_getElem? (i := 355) (by decide +kernel), List.mem_of_getElem? (i := 356) (by decide +kernel)⟩
theorem lw_p4 : lw_okq (⟨"RunnerNet$Text", "lineKind", "()I"⟩, 9) := ⟨⟨by decide +kernel, by decide +kernel⟩, List.mem_of_getElem? (i := 64) (by decide +kernel), List.mem_of_getElem? (i := 359) (by decide +kernel), List.mem_of_getElem? (i := 360) (by decide +kernel)⟩
theorem lw_p5 : lw_okq (⟨"RunnerNet$Text", "isWord", "(Ljava/lang/String;)Z"⟩, 9) := ⟨⟨by decide +kernel, by decide +kernel⟩, List.mem_of_getElem? (i := 64) (by decide +kernel), List.mem_of_getElem? (i := 364) (by decide +kernel), List.mem_of_getElem? (i := 365) (by decide +kernel)⟩
theorem lw_p6 : lw_okq (⟨"RunnerNet$Text", "number", "()I"⟩, 9) := ⟨⟨by decide +kernel, by decide +kernel⟩, List.mem_of_getElem? (i := 64) (by decide +kernel), List.mem_of_getElem? (i := 418) (by decide +kernel), List.mem_of_getElem? (i := 419) (by decide +kernel)⟩
theorem lw_p7 : lw_okq (⟨"RunnerNet", "refuseStand", "(IIII)I"⟩, 10) := ⟨⟨by decide +kernel, by decide +kernel⟩, List.mem_of_getElem? (i := 22) (by decide +kernel), List.mem_of_getElem? (i := 480) (by decide +kernel), List.mem_of_getElem? (i := 481) (by decide +kernel)⟩
theorem lw_p8 : lw_okq (⟨"RunnerNet", "settings", "(I)LRunnerNet$Settings;"⟩, 10) := ⟨⟨by decide +kernel, by decide +kernel⟩, List.mem_of_getElem? (i := 22) (by decide +kernel), List.mem_of_getElem? (i := 487) (by decide +kernel), List.mem_of_getElem? (i := 488) (by decide +kernel)⟩
theorem lw_p9 : lw_okq (⟨"RunnerNet", "chase", "(II)LRunnerNet$Chase;"⟩, 10) := ⟨⟨by decide +kernel, by decide +kernel⟩, List.mem_of_getElem? (i := 22) (by decide +kernel), List.mem_of_getElem? (i := 500) (by decide +kernel), List.mem_of_getElem? (i := 501) (by decide +kernel)⟩
theorem lw_p10 : lw_okq (⟨"RunnerNet$Chase", "begin", "()V"⟩, 8) := ⟨⟨by decide +kernel, by decide +kernel⟩, List.mem_of_getElem? (i := 123) (by decide +kernel), List.mem_of_getElem? (i := 512) (by decide +kernel), List.mem_of_getElem? (i := 513) (by decide +kernel)⟩
theorem lw_p11 : lw_okq (⟨"RunnerNet$Chase", "trap", "()V"⟩, 8) := ⟨⟨by decide +kernel, by decide +kernel⟩, List.mem_of_getElem? (i := 123) (by decide +kernel), List.mem_of_getElem? (i := 529) (by decide +kernel), List.mem_of_getElem? (i := 530) (by decide +kernel)⟩
theorem lw_p12 : lw_okq (⟨"RunnerNet$Chase", "widen", "(I)V"⟩, 8) := ⟨⟨by decide +kernel, by decide +kernel⟩, List.mem_of_getElem? (i := 123) (by decide +kernel), List.mem_of_getElem? (i := 546) (by decide +kernel), List.mem_of_getElem? (i := 547) (by decide +kernel)⟩
theorem lw_p13 : lw_okq (⟨"RunnerNet$Chase", "joinRows", "(III)V"⟩, 8) := ⟨⟨by decide +kernel, by decide +kernel⟩, List.mem_of_getElem? (i := 123) (by decide +kernel), List.mem_of_getElem? (i := 553) (by decide +kernel), List.mem_of_getElem? (i := 554) (by decide +kernel)⟩
theorem lw_p14 : lw_okq (⟨"RunnerNet$Chase", "note", "(I)Z"⟩, 8) := ⟨⟨by decide +kernel, by decide +kernel⟩, List.mem_of_getElem? (i := 123) (by decide +kernel), List.mem_of_getElem? (i := 561) (by decide +kernel), List.mem_of_getElem? (i := 562) (by decide +kernel)⟩
theorem lw_p15 : lw_okq (⟨"RunnerNet$Chase", "leftAt", "(II)I"⟩, 8) := ⟨⟨by decide +kernel, by decide +kernel⟩, List.mem_of_getElem? (i := 123) (by decide +kernel), List.mem_of_getElem? (i := 569) (by decide +kernel), List.mem_of_getElem? (i := 570) (by decide +kernel)⟩
def lw_privs_1 : List (MethodName × Nat) := [(⟨"RunnerNet$Text", "readLine", "(I)Z"⟩, 9), (⟨"RunnerNet$Text", "nextToken", "()V"⟩, 9), (⟨"RunnerNet$Text", "byteAt", "(I)I"⟩, 9), (⟨"RunnerNet$Text", "kindAt", "(I)I"⟩, 9), (⟨"RunnerNet$Text", "lineKind", "()I"⟩, 9), (⟨"RunnerNet$Text", "isWord", "(Ljava/lang/String;)Z"⟩, 9), (⟨"RunnerNet$Text", "number", "()I"⟩, 9), (⟨"RunnerNet", "refuseStand", "(IIII)I"⟩, 10), (⟨"RunnerNet", "settings", "(I)LRunnerNet$Settings;"⟩, 10), (⟨"RunnerNet", "chase", "(II)LRunnerNet$Chase;"⟩, 10), (⟨"RunnerNet$Chase", "begin", "()V"⟩, 8), (⟨"RunnerNet$Chase", "trap", "()V"⟩, 8), (⟨"RunnerNet$Chase", "widen", "(I)V"⟩, 8), (⟨"RunnerNet$Chase", "joinRows", "(III)V"⟩, 8), (⟨"RunnerNet$Chase", "note", "(I)Z"⟩, 8), (⟨"RunnerNet$Chase", "leftAt", "(II)I"⟩, 8)]
theorem lw_r1 : ∀ q ∈ lw_privs_1, lw_okq q := List.forall_mem_cons.mpr ⟨lw_p0, List.forall_mem_cons.mpr ⟨lw_p1, List.forall_mem_cons.mpr ⟨lw_p2, List.forall_mem_cons.mpr ⟨lw_p3, List.forall_mem_cons.mpr ⟨lw_p4, List.forall_mem_cons.mpr ⟨lw_p5, List.forall_mem_cons.mpr ⟨lw_p6, List.forall_mem_cons.mpr ⟨lw_p7, List.forall_mem_cons.mpr ⟨lw_p8, List.forall_mem_cons.mpr ⟨lw_p9, List.forall_mem_cons.mpr ⟨lw_p10, List.forall_mem_cons.mpr ⟨lw_p11, List.forall_mem_cons.mpr ⟨lw_p12, List.forall_mem_cons.mpr ⟨lw_p13, List.forall_mem_cons.mpr ⟨lw_p14, List.forall_mem_cons.mpr ⟨lw_p15, fun _ h => absurd h List.not_mem_nil⟩⟩⟩⟩⟩⟩⟩⟩⟩⟩⟩⟩⟩⟩⟩⟩
theorem lw_p16 : lw_okq (⟨"RunnerNet$Chase", "mostAmong", "(II)I"⟩, 8) := ⟨⟨by decide +kernel, by decide +kernel⟩, List.mem_of_getElem? (i := 123) (by decide +kernel), List.mem_of_getElem? (i := 581) (by decide +kernel), List.mem_of_getElem? (i := 582) (by decide +kernel)⟩
theorem lw_p17 : lw_okq (⟨"RunnerNet", "isCaught", "()Z"⟩, 10) := ⟨⟨by decide +kernel, by decide +kernel⟩, List.mem_of_getElem? (i := 22) (by decide +kernel), List.mem_of_getElem? (i := 674) (by decide +kernel), List.mem_of_getElem? (i := 675) (by decide +kernel)⟩
theorem lw_p18 : lw_okq (⟨"RunnerNet", "settingBehind", "(I)I"⟩, 10) := ⟨⟨by decide +kernel, by decide +kernel⟩, List.mem_of_getElem? (i := 22) (by decide +kernel), List.mem_of_getElem? (i := 690) (by decide +kernel), List.mem_of_getElem? (i := 691) (by decide +kernel)⟩
theorem lw_p19 : lw_okq (⟨"RunnerNet", "placeBehind", "(II)I"⟩, 10) := ⟨⟨by decide +kernel, by decide +kernel⟩, List.mem_of_getElem? (i := 22) (by decide +kernel), List.mem_of_getElem? (i := 699) (by decide +kernel), List.mem_of_getElem? (i := 700) (by decide +kernel)⟩
theorem lw_p20 : lw_okq (⟨"RunnerNet$Unseen", "meet", "(III)V"⟩, 10) := ⟨⟨by decide +kernel, by decide +kernel⟩, List.mem_of_getElem? (i := 183) (by decide +kernel), List.mem_of_getElem? (i := 744) (by decide +kernel), List.mem_of_getElem? (i := 745) (by decide +kernel)⟩
theorem lw_p21 : lw_okq (⟨"RunnerNet$Unseen", "expand", "(I)V"⟩, 10) := ⟨⟨by decide +kernel, by decide +kernel⟩, List.mem_of_getElem? (i := 183) (by decide +kernel), List.mem_of_getElem? (i := 749) (by decide +kernel), List.mem_of_getElem? (i := 750) (by decide +kernel)⟩
theorem lw_p22 : lw_okq (⟨"RunnerNet$Unseen", "step", "(II)V"⟩, 10) := ⟨⟨by decide +kernel, by decide +kernel⟩, List.mem_of_getElem? (i := 183) (by decide +kernel), List.mem_of_getElem? (i := 756) (by decide +kernel), List.mem_of_getElem? (i := 757) (by decide +kernel)⟩
theorem lw_p23 : lw_okq (⟨"RunnerNet$Unseen", "depthOf", "(I)I"⟩, 10) := ⟨⟨by decide +kernel, by decide +kernel⟩, List.mem_of_getElem? (i := 183) (by decide +kernel), List.mem_of_getElem? (i := 761) (by decide +kernel), List.mem_of_getElem? (i := 762) (by decide +kernel)⟩
theorem lw_p24 : lw_okq (⟨"RunnerNet$Unseen", "parentOf", "(I)I"⟩, 10) := ⟨⟨by decide +kernel, by decide +kernel⟩, List.mem_of_getElem? (i := 183) (by decide +kernel), List.mem_of_getElem? (i := 765) (by decide +kernel), List.mem_of_getElem? (i := 766) (by decide +kernel)⟩
theorem lw_p25 : lw_okq (⟨"RunnerNet$Orders", "solve", "()V"⟩, 5) := ⟨⟨by decide +kernel, by decide +kernel⟩, List.mem_of_getElem? (i := 220) (by decide +kernel), List.mem_of_getElem? (i := 789) (by decide +kernel), List.mem_of_getElem? (i := 790) (by decide +kernel)⟩
theorem lw_p26 : lw_okq (⟨"RunnerNet$Orders", "most", "(II)I"⟩, 5) := ⟨⟨by decide +kernel, by decide +kernel⟩, List.mem_of_getElem? (i := 220) (by decide +kernel), List.mem_of_getElem? (i := 798) (by decide +kernel), List.mem_of_getElem? (i := 799) (by decide +kernel)⟩
theorem lw_p27 : lw_okq (⟨"RunnerNet$Orders", "neighbours", "(II)I"⟩, 5) := ⟨⟨by decide +kernel, by decide +kernel⟩, List.mem_of_getElem? (i := 220) (by decide +kernel), List.mem_of_getElem? (i := 802) (by decide +kernel), List.mem_of_getElem? (i := 803) (by decide +kernel)⟩
theorem lw_p28 : lw_okq (⟨"RunnerNet$Orders", "border", "(I)I"⟩, 5) := ⟨⟨by decide +kernel, by decide +kernel⟩, List.mem_of_getElem? (i := 220) (by decide +kernel), List.mem_of_getElem? (i := 811) (by decide +kernel), List.mem_of_getElem? (i := 812) (by decide +kernel)⟩
theorem lw_p29 : lw_okq (⟨"RunnerNet$Orders", "choose", "()V"⟩, 5) := ⟨⟨by decide +kernel, by decide +kernel⟩, List.mem_of_getElem? (i := 220) (by decide +kernel), List.mem_of_getElem? (i := 816) (by decide +kernel), List.mem_of_getElem? (i := 817) (by decide +kernel)⟩
theorem lw_p30 : lw_okq (⟨"RunnerNet$Covers", "leastCovered", "(I)I"⟩, 1) := ⟨⟨by decide +kernel, by decide +kernel⟩, List.mem_of_getElem? (i := 242) (by decide +kernel), List.mem_of_getElem? (i := 834) (by decide +kernel), List.mem_of_getElem? (i := 835) (by decide +kernel)⟩
theorem lw_p31 : lw_okq (⟨"RunnerNet$Covers", "isCovered", "(II)Z"⟩, 1) := ⟨⟨by decide +kernel, by decide +kernel⟩, List.mem_of_getElem? (i := 242) (by decide +kernel), List.mem_of_getElem? (i := 840) (by decide +kernel), List.mem_of_getElem? (i := 841) (by decide +kernel)⟩
def lw_privs_2 : List (MethodName × Nat) := [(⟨"RunnerNet$Chase", "mostAmong", "(II)I"⟩, 8), (⟨"RunnerNet", "isCaught", "()Z"⟩, 10), (⟨"RunnerNet", "settingBehind", "(I)I"⟩, 10), (⟨"RunnerNet", "placeBehind", "(II)I"⟩, 10), (⟨"RunnerNet$Unseen", "meet", "(III)V"⟩, 10), (⟨"RunnerNet$Unseen", "expand", "(I)V"⟩, 10), (⟨"RunnerNet$Unseen", "step", "(II)V"⟩, 10), (⟨"RunnerNet$Unseen", "depthOf", "(I)I"⟩, 10), (⟨"RunnerNet$Unseen", "parentOf", "(I)I"⟩, 10), (⟨"RunnerNet$Orders", "solve", "()V"⟩, 5), (⟨"RunnerNet$Orders", "most", "(II)I"⟩, 5), (⟨"RunnerNet$Orders", "neighbours", "(II)I"⟩, 5), (⟨"RunnerNet$Orders", "border", "(I)I"⟩, 5), (⟨"RunnerNet$Orders", "choose", "()V"⟩, 5), (⟨"RunnerNet$Covers", "leastCovered", "(I)I"⟩, 1), (⟨"RunnerNet$Covers", "isCovered", "(II)Z"⟩, 1)]
theorem lw_r2 : ∀ q ∈ lw_privs_2, lw_okq q := List.forall_mem_cons.mpr ⟨lw_p16, List.forall_mem_cons.mpr ⟨lw_p17, List.forall_mem_cons.mpr ⟨lw_p18, List.forall_mem_cons.mpr ⟨lw_p19, List.forall_mem_cons.mpr ⟨lw_p20, List.forall_mem_cons.mpr ⟨lw_p21, List.forall_mem_cons.mpr ⟨lw_p22, List.forall_mem_cons.mpr ⟨lw_p23, List.forall_mem_cons.mpr ⟨lw_p24, List.forall_mem_cons.mpr ⟨lw_p25, List.forall_mem_cons.mpr ⟨lw_p26, List.forall_mem_cons.mpr ⟨lw_p27, List.forall_mem_cons.mpr ⟨lw_p28, List.forall_mem_cons.mpr ⟨lw_p29, List.forall_mem_cons.mpr ⟨lw_p30, List.forall_mem_cons.mpr ⟨lw_p31, fun _ h => absurd h List.not_mem_nil⟩⟩⟩⟩⟩⟩⟩⟩⟩⟩⟩⟩⟩⟩⟩⟩
theorem lw_p32 : lw_okq (⟨"RunnerNet$Covers", "touchesAll", "(I)Z"⟩, 1) := ⟨⟨by decide +kernel, by decide +kernel⟩, List.mem_of_getElem? (i := 242) (by decide +kernel), List.mem_of_getElem? (i := 858) (by decide +kernel), List.mem_of_getElem? (i := 859) (by decide +kernel)⟩
theorem lw_p33 : lw_okq (⟨"RunnerNet", "isWatch", "(II)Z"⟩, 10) := ⟨⟨by decide +kernel, by decide +kernel⟩, List.mem_of_getElem? (i := 22) (by decide +kernel), List.mem_of_getElem? (i := 867) (by decide +kernel), List.mem_of_getElem? (i := 868) (by decide +kernel)⟩
theorem lw_p34 : lw_okq (⟨"RunnerNet$Guards", "solve", "()V"⟩, 5) := ⟨⟨by decide +kernel, by decide +kernel⟩, List.mem_of_getElem? (i := 253) (by decide +kernel), List.mem_of_getElem? (i := 875) (by decide +kernel), List.mem_of_getElem? (i := 876) (by decide +kernel)⟩
theorem lw_p35 : lw_okq (⟨"RunnerNet$Guards", "moveAlone", "()V"⟩, 5) := ⟨⟨by decide +kernel, by decide +kernel⟩, List.mem_of_getElem? (i := 253) (by decide +kernel), List.mem_of_getElem? (i := 883) (by decide +kernel), List.mem_of_getElem? (i := 884) (by decide +kernel)⟩
theorem lw_p36 : lw_okq (⟨"RunnerNet$Guards", "moveTogether", "()V"⟩, 5) := ⟨⟨by decide +kernel, by decide +kernel⟩, List.mem_of_getElem? (i := 253) (by decide +kernel), List.mem_of_getElem? (i := 894) (by decide +kernel), List.mem_of_getElem? (i := 895) (by decide +kernel)⟩
theorem lw_p37 : lw_okq (⟨"RunnerNet$Guards", "addPlace", "(III)V"⟩, 5) := ⟨⟨by decide +kernel, by decide +kernel⟩, List.mem_of_getElem? (i := 253) (by decide +kernel), List.mem_of_getElem? (i := 898) (by decide +kernel), List.mem_of_getElem? (i := 899) (by decide +kernel)⟩
theorem lw_p38 : lw_okq (⟨"RunnerNet$Guards", "dropUnsafe", "()Z"⟩, 5) := ⟨⟨by decide +kernel, by decide +kernel⟩, List.mem_of_getElem? (i := 253) (by decide +kernel), List.mem_of_getElem? (i := 908) (by decide +kernel), List.mem_of_getElem? (i := 909) (by decide +kernel)⟩
theorem lw_p39 : lw_okq (⟨"RunnerNet$Guards", "isSafe", "(I)Z"⟩, 5) := ⟨⟨by decide +kernel, by decide +kernel⟩, List.mem_of_getElem? (i := 253) (by decide +kernel), List.mem_of_getElem? (i := 912) (by decide +kernel), List.mem_of_getElem? (i := 913) (by decide +kernel)⟩
theorem lw_p40 : lw_okq (⟨"RunnerNet$Guards", "answersAll", "(I)Z"⟩, 5) := ⟨⟨by decide +kernel, by decide +kernel⟩, List.mem_of_getElem? (i := 253) (by decide +kernel), List.mem_of_getElem? (i := 916) (by decide +kernel), List.mem_of_getElem? (i := 917) (by decide +kernel)⟩
theorem lw_p41 : lw_okq (⟨"RunnerNet$Guards", "answersIn", "(III)J"⟩, 5) := ⟨⟨by decide +kernel, by decide +kernel⟩, List.mem_of_getElem? (i := 253) (by decide +kernel), List.mem_of_getElem? (i := 920) (by decide +kernel), List.mem_of_getElem? (i := 921) (by decide +kernel)⟩
theorem lw_p42 : lw_okq (⟨"RunnerNetModel", "isRead", "()Z"⟩, 41) := ⟨⟨by decide +kernel, by decide +kernel⟩, List.mem_of_getElem? (i := 961) (by decide +kernel), List.mem_of_getElem? (i := 1110) (by decide +kernel), List.mem_of_getElem? (i := 1111) (by decide +kernel)⟩
theorem lw_p43 : lw_okq (⟨"RunnerNetModel", "isLine", "(I)Z"⟩, 41) := ⟨⟨by decide +kernel, by decide +kernel⟩, List.mem_of_getElem? (i := 961) (by decide +kernel), List.mem_of_getElem? (i := 1114) (by decide +kernel), List.mem_of_getElem? (i := 1115) (by decide +kernel)⟩
theorem lw_p44 : lw_okq (⟨"RunnerNetModel", "nextToken", "()V"⟩, 41) := ⟨⟨by decide +kernel, by decide +kernel⟩, List.mem_of_getElem? (i := 961) (by decide +kernel), List.mem_of_getElem? (i := 1118) (by decide +kernel), List.mem_of_getElem? (i := 1119) (by decide +kernel)⟩
theorem lw_p45 : lw_okq (⟨"RunnerNetModel", "fails", "()Z"⟩, 41) := ⟨⟨by decide +kernel, by decide +kernel⟩, List.mem_of_getElem? (i := 961) (by decide +kernel), List.mem_of_getElem? (i := 1131) (by decide +kernel), List.mem_of_getElem? (i := 1132) (by decide +kernel)⟩
theorem lw_p46 : lw_okq (⟨"RunnerNetModel", "isNumber", "(III)Z"⟩, 41) := ⟨⟨by decide +kernel, by decide +kernel⟩, List.mem_of_getElem? (i := 961) (by decide +kernel), List.mem_of_getElem? (i := 1135) (by decide +kernel), List.mem_of_getElem? (i := 1136) (by decide +kernel)⟩
theorem lw_p47 : lw_okq (⟨"RunnerNetModel", "forget", "()V"⟩, 41) := ⟨⟨by decide +kernel, by decide +kernel⟩, List.mem_of_getElem? (i := 961) (by decide +kernel), List.mem_of_getElem? (i := 1143) (by decide +kernel), List.mem_of_getElem? (i := 1144) (by decide +kernel)⟩
def lw_privs_3 : List (MethodName × Nat) := [(⟨"RunnerNet$Covers", "touchesAll", "(I)Z"⟩, 1), (⟨"RunnerNet", "isWatch", "(II)Z"⟩, 10), (⟨"RunnerNet$Guards", "solve", "()V"⟩, 5), (⟨"RunnerNet$Guards", "moveAlone", "()V"⟩, 5), (⟨"RunnerNet$Guards", "moveTogether", "()V"⟩, 5), (⟨"RunnerNet$Guards", "addPlace", "(III)V"⟩, 5), (⟨"RunnerNet$Guards", "dropUnsafe", "()Z"⟩, 5), (⟨"RunnerNet$Guards", "isSafe", "(I)Z"⟩, 5), (⟨"RunnerNet$Guards", "answersAll", "(I)Z"⟩, 5), (⟨"RunnerNet$Guards", "answersIn", "(III)J"⟩, 5), (⟨"RunnerNetModel", "isRead", "()Z"⟩, 41), (⟨"RunnerNetModel", "isLine", "(I)Z"⟩, 41), (⟨"RunnerNetModel", "nextToken", "()V"⟩, 41), (⟨"RunnerNetModel", "fails", "()Z"⟩, 41), (⟨"RunnerNetModel", "isNumber", "(III)Z"⟩, 41), (⟨"RunnerNetModel", "forget", "()V"⟩, 41)]
theorem lw_r3 : ∀ q ∈ lw_privs_3, lw_okq q := List.forall_mem_cons.mpr ⟨lw_p32, List.forall_mem_cons.mpr ⟨lw_p33, List.forall_mem_cons.mpr ⟨lw_p34, List.forall_mem_cons.mpr ⟨lw_p35, List.forall_mem_cons.mpr ⟨lw_p36, List.forall_mem_cons.mpr ⟨lw_p37, List.forall_mem_cons.mpr ⟨lw_p38, List.forall_mem_cons.mpr ⟨lw_p39, List.forall_mem_cons.mpr ⟨lw_p40, List.forall_mem_cons.mpr ⟨lw_p41, List.forall_mem_cons.mpr ⟨lw_p42, List.forall_mem_cons.mpr ⟨lw_p43, List.forall_mem_cons.mpr ⟨lw_p44, List.forall_mem_cons.mpr ⟨lw_p45, List.forall_mem_cons.mpr ⟨lw_p46, List.forall_mem_cons.mpr ⟨lw_p47, fun _ h => absurd h List.not_mem_nil⟩⟩⟩⟩⟩⟩⟩⟩⟩⟩⟩⟩⟩⟩⟩⟩
theorem lw_p48 : lw_okq (⟨"RunnerNetModel", "isPlace", "(I)Z"⟩, 41) := ⟨⟨by decide +kernel, by decide +kernel⟩, List.mem_of_getElem? (i := 961) (by decide +kernel), List.mem_of_getElem? (i := 1151) (by decide +kernel), List.mem_of_getElem? (i := 1152) (by decide +kernel)⟩
theorem lw_p49 : lw_okq (⟨"RunnerNetModel", "stepsOf", "(I)I"⟩, 41) := ⟨⟨by decide +kernel, by decide +kernel⟩, List.mem_of_getElem? (i := 961) (by decide +kernel), List.mem_of_getElem? (i := 1159) (by decide +kernel), List.mem_of_getElem? (i := 1160) (by decide +kernel)⟩
theorem lw_p50 : lw_okq (⟨"RunnerNetModel", "stepped", "(I)I"⟩, 41) := ⟨⟨by decide +kernel, by decide +kernel⟩, List.mem_of_getElem? (i := 961) (by decide +kernel), List.mem_of_getElem? (i := 1167) (by decide +kernel), List.mem_of_getElem? (i := 1168) (by decide +kernel)⟩
theorem lw_p51 : lw_okq (⟨"RunnerNetModel", "told", "(II)I"⟩, 41) := ⟨⟨by decide +kernel, by decide +kernel⟩, List.mem_of_getElem? (i := 961) (by decide +kernel), List.mem_of_getElem? (i := 1178) (by decide +kernel), List.mem_of_getElem? (i := 1179) (by decide +kernel)⟩
theorem lw_p52 : lw_okq (⟨"RunnerNetModel", "settled", "(I)I"⟩, 41) := ⟨⟨by decide +kernel, by decide +kernel⟩, List.mem_of_getElem? (i := 961) (by decide +kernel), List.mem_of_getElem? (i := 1182) (by decide +kernel), List.mem_of_getElem? (i := 1183) (by decide +kernel)⟩
theorem lw_p53 : lw_okq (⟨"RunnerNetModel", "reckon", "(II)V"⟩, 41) := ⟨⟨by decide +kernel, by decide +kernel⟩, List.mem_of_getElem? (i := 961) (by decide +kernel), List.mem_of_getElem? (i := 1186) (by decide +kernel), List.mem_of_getElem? (i := 1187) (by decide +kernel)⟩
theorem lw_p54 : lw_okq (⟨"RunnerNetModel", "findFlights", "(II)V"⟩, 41) := ⟨⟨by decide +kernel, by decide +kernel⟩, List.mem_of_getElem? (i := 961) (by decide +kernel), List.mem_of_getElem? (i := 1190) (by decide +kernel), List.mem_of_getElem? (i := 1191) (by decide +kernel)⟩
theorem lw_p55 : lw_okq (⟨"RunnerNetModel", "isSetting", "(II)Z"⟩, 41) := ⟨⟨by decide +kernel, by decide +kernel⟩, List.mem_of_getElem? (i := 961) (by decide +kernel), List.mem_of_getElem? (i := 1197) (by decide +kernel), List.mem_of_getElem? (i := 1198) (by decide +kernel)⟩
theorem lw_p56 : lw_okq (⟨"RunnerNetModel", "spell", "(II)V"⟩, 41) := ⟨⟨by decide +kernel, by decide +kernel⟩, List.mem_of_getElem? (i := 961) (by decide +kernel), List.mem_of_getElem? (i := 1201) (by decide +kernel), List.mem_of_getElem? (i := 1202) (by decide +kernel)⟩
theorem lw_p57 : lw_okq (⟨"RunnerNetModel", "placesOf", "(II)I"⟩, 41) := ⟨⟨by decide +kernel, by decide +kernel⟩, List.mem_of_getElem? (i := 961) (by decide +kernel), List.mem_of_getElem? (i := 1205) (by decide +kernel), List.mem_of_getElem? (i := 1206) (by decide +kernel)⟩
theorem lw_p58 : lw_okq (⟨"RunnerNetModel", "flight", "(III)I"⟩, 41) := ⟨⟨by decide +kernel, by decide +kernel⟩, List.mem_of_getElem? (i := 961) (by decide +kernel), List.mem_of_getElem? (i := 1209) (by decide +kernel), List.mem_of_getElem? (i := 1210) (by decide +kernel)⟩
theorem lw_p59 : lw_okq (⟨"RunnerNetModel", "findGood", "(III)V"⟩, 41) := ⟨⟨by decide +kernel, by decide +kernel⟩, List.mem_of_getElem? (i := 961) (by decide +kernel), List.mem_of_getElem? (i := 1216) (by decide +kernel), List.mem_of_getElem? (i := 1217) (by decide +kernel)⟩
theorem lw_p60 : lw_okq (⟨"RunnerNetModel", "behind", "(IIII)I"⟩, 41) := ⟨⟨by decide +kernel, by decide +kernel⟩, List.mem_of_getElem? (i := 961) (by decide +kernel), List.mem_of_getElem? (i := 1220) (by decide +kernel), List.mem_of_getElem? (i := 1221) (by decide +kernel)⟩
theorem lw_p61 : lw_okq (⟨"RunnerNetModel", "leavable", "(II)I"⟩, 41) := ⟨⟨by decide +kernel, by decide +kernel⟩, List.mem_of_getElem? (i := 961) (by decide +kernel), List.mem_of_getElem? (i := 1224) (by decide +kernel), List.mem_of_getElem? (i := 1225) (by decide +kernel)⟩
theorem lw_p62 : lw_okq (⟨"RunnerNetModel", "moved", "(III)I"⟩, 41) := ⟨⟨by decide +kernel, by decide +kernel⟩, List.mem_of_getElem? (i := 961) (by decide +kernel), List.mem_of_getElem? (i := 1228) (by decide +kernel), List.mem_of_getElem? (i := 1229) (by decide +kernel)⟩
theorem lw_p63 : lw_okq (⟨"RunnerNetModel", "worthOf", "(III)I"⟩, 41) := ⟨⟨by decide +kernel, by decide +kernel⟩, List.mem_of_getElem? (i := 961) (by decide +kernel), List.mem_of_getElem? (i := 1236) (by decide +kernel), List.mem_of_getElem? (i := 1237) (by decide +kernel)⟩
def lw_privs_4 : List (MethodName × Nat) := [(⟨"RunnerNetModel", "isPlace", "(I)Z"⟩, 41), (⟨"RunnerNetModel", "stepsOf", "(I)I"⟩, 41), (⟨"RunnerNetModel", "stepped", "(I)I"⟩, 41), (⟨"RunnerNetModel", "told", "(II)I"⟩, 41), (⟨"RunnerNetModel", "settled", "(I)I"⟩, 41), (⟨"RunnerNetModel", "reckon", "(II)V"⟩, 41), (⟨"RunnerNetModel", "findFlights", "(II)V"⟩, 41), (⟨"RunnerNetModel", "isSetting", "(II)Z"⟩, 41), (⟨"RunnerNetModel", "spell", "(II)V"⟩, 41), (⟨"RunnerNetModel", "placesOf", "(II)I"⟩, 41), (⟨"RunnerNetModel", "flight", "(III)I"⟩, 41), (⟨"RunnerNetModel", "findGood", "(III)V"⟩, 41), (⟨"RunnerNetModel", "behind", "(IIII)I"⟩, 41), (⟨"RunnerNetModel", "leavable", "(II)I"⟩, 41), (⟨"RunnerNetModel", "moved", "(III)I"⟩, 41), (⟨"RunnerNetModel", "worthOf", "(III)I"⟩, 41)]
theorem lw_r4 : ∀ q ∈ lw_privs_4, lw_okq q := List.forall_mem_cons.mpr ⟨lw_p48, List.forall_mem_cons.mpr ⟨lw_p49, List.forall_mem_cons.mpr ⟨lw_p50, List.forall_mem_cons.mpr ⟨lw_p51, List.forall_mem_cons.mpr ⟨lw_p52, List.forall_mem_cons.mpr ⟨lw_p53, List.forall_mem_cons.mpr ⟨lw_p54, List.forall_mem_cons.mpr ⟨lw_p55, List.forall_mem_cons.mpr ⟨lw_p56, List.forall_mem_cons.mpr ⟨lw_p57, List.forall_mem_cons.mpr ⟨lw_p58, List.forall_mem_cons.mpr ⟨lw_p59, List.forall_mem_cons.mpr ⟨lw_p60, List.forall_mem_cons.mpr ⟨lw_p61, List.forall_mem_cons.mpr ⟨lw_p62, List.forall_mem_cons.mpr ⟨lw_p63, fun _ h => absurd h List.not_mem_nil⟩⟩⟩⟩⟩⟩⟩⟩⟩⟩⟩⟩⟩⟩⟩⟩
theorem lw_p64 : lw_okq (⟨"RunnerNetModel", "bestOf", "(II)I"⟩, 41) := ⟨⟨by decide +kernel, by decide +kernel⟩, List.mem_of_getElem? (i := 961) (by decide +kernel), List.mem_of_getElem? (i := 1244) (by decide +kernel), List.mem_of_getElem? (i := 1245) (by decide +kernel)⟩
theorem lw_p65 : lw_okq (⟨"RunnerNetModel", "huntOf", "(IIII)I"⟩, 41) := ⟨⟨by decide +kernel, by decide +kernel⟩, List.mem_of_getElem? (i := 961) (by decide +kernel), List.mem_of_getElem? (i := 1260) (by decide +kernel), List.mem_of_getElem? (i := 1261) (by decide +kernel)⟩
theorem lw_p66 : lw_okq (⟨"RunnerNetModel", "fleeOf", "(IIII)I"⟩, 41) := ⟨⟨by decide +kernel, by decide +kernel⟩, List.mem_of_getElem? (i := 961) (by decide +kernel), List.mem_of_getElem? (i := 1268) (by decide +kernel), List.mem_of_getElem? (i := 1269) (by decide +kernel)⟩
theorem lw_p67 : lw_okq (⟨"RunnerNetModel", "isCaught", "()Z"⟩, 41) := ⟨⟨by decide +kernel, by decide +kernel⟩, List.mem_of_getElem? (i := 961) (by decide +kernel), List.mem_of_getElem? (i := 1280) (by decide +kernel), List.mem_of_getElem? (i := 1281) (by decide +kernel)⟩
theorem lw_p68 : lw_okq (⟨"RunnerNetModel", "isSet", "(I)Z"⟩, 41) := ⟨⟨by decide +kernel, by decide +kernel⟩, List.mem_of_getElem? (i := 961) (by decide +kernel), List.mem_of_getElem? (i := 1292) (by decide +kernel), List.mem_of_getElem? (i := 1293) (by decide +kernel)⟩
theorem lw_p69 : lw_okq (⟨"RunnerNetModel", "spreadOf", "(II)I"⟩, 41) := ⟨⟨by decide +kernel, by decide +kernel⟩, List.mem_of_getElem? (i := 961) (by decide +kernel), List.mem_of_getElem? (i := 1296) (by decide +kernel), List.mem_of_getElem? (i := 1297) (by decide +kernel)⟩
theorem lw_p70 : lw_okq (⟨"RunnerNetModel", "findClear", "(II)V"⟩, 41) := ⟨⟨by decide +kernel, by decide +kernel⟩, List.mem_of_getElem? (i := 961) (by decide +kernel), List.mem_of_getElem? (i := 1304) (by decide +kernel), List.mem_of_getElem? (i := 1305) (by decide +kernel)⟩
theorem lw_p71 : lw_okq (⟨"RunnerNetModel", "canStep", "(III)Z"⟩, 41) := ⟨⟨by decide +kernel, by decide +kernel⟩, List.mem_of_getElem? (i := 961) (by decide +kernel), List.mem_of_getElem? (i := 1308) (by decide +kernel), List.mem_of_getElem? (i := 1309) (by decide +kernel)⟩
theorem lw_p72 : lw_okq (⟨"RunnerNetModel", "lengthFound", "()I"⟩, 41) := ⟨⟨by decide +kernel, by decide +kernel⟩, List.mem_of_getElem? (i := 961) (by decide +kernel), List.mem_of_getElem? (i := 1312) (by decide +kernel), List.mem_of_getElem? (i := 1313) (by decide +kernel)⟩
theorem lw_p73 : lw_okq (⟨"RunnerNetModel", "findRest", "(Z)V"⟩, 41) := ⟨⟨by decide +kernel, by decide +kernel⟩, List.mem_of_getElem? (i := 961) (by decide +kernel), List.mem_of_getElem? (i := 1324) (by decide +kernel), List.mem_of_getElem? (i := 1325) (by decide +kernel)⟩
theorem lw_p74 : lw_okq (⟨"RunnerNetModel", "joinBoth", "()V"⟩, 41) := ⟨⟨by decide +kernel, by decide +kernel⟩, List.mem_of_getElem? (i := 961) (by decide +kernel), List.mem_of_getElem? (i := 1328) (by decide +kernel), List.mem_of_getElem? (i := 1329) (by decide +kernel)⟩
theorem lw_p75 : lw_okq (⟨"RunnerNetModel", "costOf", "(ZII)I"⟩, 41) := ⟨⟨by decide +kernel, by decide +kernel⟩, List.mem_of_getElem? (i := 961) (by decide +kernel), List.mem_of_getElem? (i := 1332) (by decide +kernel), List.mem_of_getElem? (i := 1333) (by decide +kernel)⟩
theorem lw_p76 : lw_okq (⟨"RunnerNetModel", "greater", "(II)I"⟩, 41) := ⟨⟨by decide +kernel, by decide +kernel⟩, List.mem_of_getElem? (i := 961) (by decide +kernel), List.mem_of_getElem? (i := 1339) (by decide +kernel), List.mem_of_getElem? (i := 1340) (by decide +kernel)⟩
theorem lw_p77 : lw_okq (⟨"RunnerNetModel", "lesser", "(II)I"⟩, 41) := ⟨⟨by decide +kernel, by decide +kernel⟩, List.mem_of_getElem? (i := 961) (by decide +kernel), List.mem_of_getElem? (i := 1343) (by decide +kernel), List.mem_of_getElem? (i := 1344) (by decide +kernel)⟩
theorem lw_p78 : lw_okq (⟨"RunnerNetModel", "coveredIn", "(I)I"⟩, 41) := ⟨⟨by decide +kernel, by decide +kernel⟩, List.mem_of_getElem? (i := 961) (by decide +kernel), List.mem_of_getElem? (i := 1351) (by decide +kernel), List.mem_of_getElem? (i := 1352) (by decide +kernel)⟩
theorem lw_p79 : lw_okq (⟨"RunnerNetModel", "stepsBoth", "(I)I"⟩, 41) := ⟨⟨by decide +kernel, by decide +kernel⟩, List.mem_of_getElem? (i := 961) (by decide +kernel), List.mem_of_getElem? (i := 1355) (by decide +kernel), List.mem_of_getElem? (i := 1356) (by decide +kernel)⟩
def lw_privs_5 : List (MethodName × Nat) := [(⟨"RunnerNetModel", "bestOf", "(II)I"⟩, 41), (⟨"RunnerNetModel", "huntOf", "(IIII)I"⟩, 41), (⟨"RunnerNetModel", "fleeOf", "(IIII)I"⟩, 41), (⟨"RunnerNetModel", "isCaught", "()Z"⟩, 41), (⟨"RunnerNetModel", "isSet", "(I)Z"⟩, 41), (⟨"RunnerNetModel", "spreadOf", "(II)I"⟩, 41), (⟨"RunnerNetModel", "findClear", "(II)V"⟩, 41), (⟨"RunnerNetModel", "canStep", "(III)Z"⟩, 41), (⟨"RunnerNetModel", "lengthFound", "()I"⟩, 41), (⟨"RunnerNetModel", "findRest", "(Z)V"⟩, 41), (⟨"RunnerNetModel", "joinBoth", "()V"⟩, 41), (⟨"RunnerNetModel", "costOf", "(ZII)I"⟩, 41), (⟨"RunnerNetModel", "greater", "(II)I"⟩, 41), (⟨"RunnerNetModel", "lesser", "(II)I"⟩, 41), (⟨"RunnerNetModel", "coveredIn", "(I)I"⟩, 41), (⟨"RunnerNetModel", "stepsBoth", "(I)I"⟩, 41)]
theorem lw_r5 : ∀ q ∈ lw_privs_5, lw_okq q := List.forall_mem_cons.mpr ⟨lw_p64, List.forall_mem_cons.mpr ⟨lw_p65, List.forall_mem_cons.mpr ⟨lw_p66, List.forall_mem_cons.mpr ⟨lw_p67, List.forall_mem_cons.mpr ⟨lw_p68, List.forall_mem_cons.mpr ⟨lw_p69, List.forall_mem_cons.mpr ⟨lw_p70, List.forall_mem_cons.mpr ⟨lw_p71, List.forall_mem_cons.mpr ⟨lw_p72, List.forall_mem_cons.mpr ⟨lw_p73, List.forall_mem_cons.mpr ⟨lw_p74, List.forall_mem_cons.mpr ⟨lw_p75, List.forall_mem_cons.mpr ⟨lw_p76, List.forall_mem_cons.mpr ⟨lw_p77, List.forall_mem_cons.mpr ⟨lw_p78, List.forall_mem_cons.mpr ⟨lw_p79, fun _ h => absurd h List.not_mem_nil⟩⟩⟩⟩⟩⟩⟩⟩⟩⟩⟩⟩⟩⟩⟩⟩
theorem lw_p80 : lw_okq (⟨"RunnerNetModel", "doesTouch", "(I)Z"⟩, 41) := ⟨⟨by decide +kernel, by decide +kernel⟩, List.mem_of_getElem? (i := 961) (by decide +kernel), List.mem_of_getElem? (i := 1363) (by decide +kernel), List.mem_of_getElem? (i := 1364) (by decide +kernel)⟩
theorem lw_p81 : lw_okq (⟨"RunnerNetModel", "guard", "()V"⟩, 41) := ⟨⟨by decide +kernel, by decide +kernel⟩, List.mem_of_getElem? (i := 961) (by decide +kernel), List.mem_of_getElem? (i := 1371) (by decide +kernel), List.mem_of_getElem? (i := 1372) (by decide +kernel)⟩
theorem lw_p82 : lw_okq (⟨"RunnerNetModel", "findGoes", "()V"⟩, 41) := ⟨⟨by decide +kernel, by decide +kernel⟩, List.mem_of_getElem? (i := 961) (by decide +kernel), List.mem_of_getElem? (i := 1375) (by decide +kernel), List.mem_of_getElem? (i := 1376) (by decide +kernel)⟩
theorem lw_p83 : lw_okq (⟨"RunnerNetModel", "goOneMore", "(I)V"⟩, 41) := ⟨⟨by decide +kernel, by decide +kernel⟩, List.mem_of_getElem? (i := 961) (by decide +kernel), List.mem_of_getElem? (i := 1379) (by decide +kernel), List.mem_of_getElem? (i := 1380) (by decide +kernel)⟩
theorem lw_p84 : lw_okq (⟨"RunnerNetModel", "canAnswer", "(II)Z"⟩, 41) := ⟨⟨by decide +kernel, by decide +kernel⟩, List.mem_of_getElem? (i := 961) (by decide +kernel), List.mem_of_getElem? (i := 1383) (by decide +kernel), List.mem_of_getElem? (i := 1384) (by decide +kernel)⟩
theorem lw_p85 : lw_okq (⟨"RunnerNetModel", "answerOf", "(III)I"⟩, 41) := ⟨⟨by decide +kernel, by decide +kernel⟩, List.mem_of_getElem? (i := 961) (by decide +kernel), List.mem_of_getElem? (i := 1387) (by decide +kernel), List.mem_of_getElem? (i := 1388) (by decide +kernel)⟩
theorem lw_p86 : lw_okq (⟨"RunnerNetModel", "stepsFrom", "(I)I"⟩, 41) := ⟨⟨by decide +kernel, by decide +kernel⟩, List.mem_of_getElem? (i := 961) (by decide +kernel), List.mem_of_getElem? (i := 1391) (by decide +kernel), List.mem_of_getElem? (i := 1392) (by decide +kernel)⟩
def lw_privs_6 : List (MethodName × Nat) := [(⟨"RunnerNetModel", "doesTouch", "(I)Z"⟩, 41), (⟨"RunnerNetModel", "guard", "()V"⟩, 41), (⟨"RunnerNetModel", "findGoes", "()V"⟩, 41), (⟨"RunnerNetModel", "goOneMore", "(I)V"⟩, 41), (⟨"RunnerNetModel", "canAnswer", "(II)Z"⟩, 41), (⟨"RunnerNetModel", "answerOf", "(III)I"⟩, 41), (⟨"RunnerNetModel", "stepsFrom", "(I)I"⟩, 41)]
theorem lw_r6 : ∀ q ∈ lw_privs_6, lw_okq q := List.forall_mem_cons.mpr ⟨lw_p80, List.forall_mem_cons.mpr ⟨lw_p81, List.forall_mem_cons.mpr ⟨lw_p82, List.forall_mem_cons.mpr ⟨lw_p83, List.forall_mem_cons.mpr ⟨lw_p84, List.forall_mem_cons.mpr ⟨lw_p85, List.forall_mem_cons.mpr ⟨lw_p86, fun _ h => absurd h List.not_mem_nil⟩⟩⟩⟩⟩⟩⟩
def lw_privs : List (MethodName × Nat) := lw_privs_1 ++ (lw_privs_2 ++ (lw_privs_3 ++ (lw_privs_4 ++ (lw_privs_5 ++ (lw_privs_6)))))
def lw_tbl : List Cond := k2_sels lw_privs ++ tables_1
theorem lw_privs_ok : ∀ q ∈ lw_privs, lw_okq q := by
  show ∀ q ∈ lw_privs_1 ++ (lw_privs_2 ++ (lw_privs_3 ++ (lw_privs_4 ++ (lw_privs_5 ++ (lw_privs_6))))), lw_okq q
  exact List.forall_mem_append.mpr ⟨lw_r1, List.forall_mem_append.mpr ⟨lw_r2, List.forall_mem_append.mpr ⟨lw_r3, List.forall_mem_append.mpr ⟨lw_r4, List.forall_mem_append.mpr ⟨lw_r5, lw_r6⟩⟩⟩⟩⟩
end
section
def RX0 : String := "RunnerNet$Chase"
def TX0 : u_T := fun k => match k with
  | 0 => ("RunnerNet$Chase", "net", "LRunnerNet$Net;", true)
  | 1 => ("RunnerNet$Chase", "settings", "LRunnerNet$Settings;", true)
  | 2 => ("RunnerNet$Chase", "speed", "I", true)
  | 3 => ("RunnerNet$Chase", "left", "[I", true)
  | 4 => ("RunnerNet$Chase", "sure", "[I", true)
  | 5 => ("RunnerNet$Chase", "trapped", "[I", true)
  | 6 => ("RunnerNet$Chase", "widened", "[I", true)
  | _ => ("RunnerNet$Chase", "solvedFor", "I", false)
def tyX0 : Nat → FieldType := fun k => match k with
  | 0 => .object "RunnerNet$Net"
  | 1 => .object "RunnerNet$Settings"
  | 2 => .int
  | 3 => .array .int
  | 4 => .array .int
  | 5 => .array .int
  | 6 => .array .int
  | _ => .int
theorem nmX0 : ∀ a, a < 8 → ∀ b, b < 8 → a ≠ b → (TX0 a).2.1 ≠ (TX0 b).2.1 := by decide +kernel
theorem tyX0_ok : ∀ k, k < 8 → parseFieldDescriptor (TX0 k).2.2.1 = some (tyX0 k) := by decide +kernel
def RX1 : String := "RunnerNet$Covers"
def TX1 : u_T := fun k => match k with
  | _ => ("RunnerNet$Covers", "net", "LRunnerNet$Net;", true)
def tyX1 : Nat → FieldType := fun k => match k with
  | _ => .object "RunnerNet$Net"
theorem nmX1 : ∀ a, a < 1 → ∀ b, b < 1 → a ≠ b → (TX1 a).2.1 ≠ (TX1 b).2.1 := by decide +kernel
theorem tyX1_ok : ∀ k, k < 1 → parseFieldDescriptor (TX1 k).2.2.1 = some (tyX1 k) := by decide +kernel
def RX2 : String := "RunnerNet$Guards"
def TX2 : u_T := fun k => match k with
  | 0 => ("RunnerNet$Guards", "net", "LRunnerNet$Net;", true)
  | 1 => ("RunnerNet$Guards", "mode", "I", true)
  | 2 => ("RunnerNet$Guards", "moves", "[J", true)
  | 3 => ("RunnerNet$Guards", "safe", "[J", true)
  | _ => ("RunnerNet$Guards", "solvedFor", "I", false)
def tyX2 : Nat → FieldType := fun k => match k with
  | 0 => .object "RunnerNet$Net"
  | 1 => .int
  | 2 => .array .long
  | 3 => .array .long
  | _ => .int
theorem nmX2 : ∀ a, a < 5 → ∀ b, b < 5 → a ≠ b → (TX2 a).2.1 ≠ (TX2 b).2.1 := by decide +kernel
theorem tyX2_ok : ∀ k, k < 5 → parseFieldDescriptor (TX2 k).2.2.1 = some (tyX2 k) := by decide +kernel
def RX3 : String := "RunnerNet$Net"
def TX3 : u_T := fun k => match k with
  | 0 => ("RunnerNet$Net", "places", "I", false)
  | 1 => ("RunnerNet$Net", "changes", "I", false)
  | 2 => ("RunnerNet$Net", "out", "[I", true)
  | 3 => ("RunnerNet$Net", "in", "[I", true)
  | 4 => ("RunnerNet$Net", "ahead", "[I", true)
  | _ => ("RunnerNet$Net", "behind", "[I", true)
def tyX3 : Nat → FieldType := fun k => match k with
  | 0 => .int
  | 1 => .int
  | 2 => .array .int
  | 3 => .array .int
  | 4 => .array .int
  | _ => .array .int
theorem nmX3 : ∀ a, a < 6 → ∀ b, b < 6 → a ≠ b → (TX3 a).2.1 ≠ (TX3 b).2.1 := by decide +kernel
theorem tyX3_ok : ∀ k, k < 6 → parseFieldDescriptor (TX3 k).2.2.1 = some (tyX3 k) := by decide +kernel
def RX4 : String := "RunnerNet$Orders"
def TX4 : u_T := fun k => match k with
  | 0 => ("RunnerNet$Orders", "net", "LRunnerNet$Net;", true)
  | 1 => ("RunnerNet$Orders", "seen", "Z", true)
  | 2 => ("RunnerNet$Orders", "rest", "[I", true)
  | 3 => ("RunnerNet$Orders", "order", "[I", true)
  | _ => ("RunnerNet$Orders", "solvedFor", "I", false)
def tyX4 : Nat → FieldType := fun k => match k with
  | 0 => .object "RunnerNet$Net"
  | 1 => .boolean
  | 2 => .array .int
  | 3 => .array .int
  | _ => .int
theorem nmX4 : ∀ a, a < 5 → ∀ b, b < 5 → a ≠ b → (TX4 a).2.1 ≠ (TX4 b).2.1 := by decide +kernel
theorem tyX4_ok : ∀ k, k < 5 → parseFieldDescriptor (TX4 k).2.2.1 = some (tyX4 k) := by decide +kernel
def RX5 : String := "RunnerNet$Play"
def TX5 : u_T := fun k => match k with
  | 0 => ("RunnerNet$Play", "on", "Z", false)
  | 1 => ("RunnerNet$Play", "hunters", "I", false)
  | 2 => ("RunnerNet$Play", "speed", "I", false)
  | 3 => ("RunnerNet$Play", "setting", "I", false)
  | 4 => ("RunnerNet$Play", "place", "I", false)
  | _ => ("RunnerNet$Play", "gone", "I", false)
def tyX5 : Nat → FieldType := fun k => match k with
  | 0 => .boolean
  | 1 => .int
  | 2 => .int
  | 3 => .int
  | 4 => .int
  | _ => .int
theorem nmX5 : ∀ a, a < 6 → ∀ b, b < 6 → a ≠ b → (TX5 a).2.1 ≠ (TX5 b).2.1 := by decide +kernel
theorem tyX5_ok : ∀ k, k < 6 → parseFieldDescriptor (TX5 k).2.2.1 = some (tyX5 k) := by decide +kernel
def RX6 : String := "RunnerNet$Settings"
def TX6 : u_T := fun k => match k with
  | 0 => ("RunnerNet$Settings", "net", "LRunnerNet$Net;", true)
  | 1 => ("RunnerNet$Settings", "hunters", "I", true)
  | 2 => ("RunnerNet$Settings", "size", "I", true)
  | _ => ("RunnerNet$Settings", "placesOf", "[I", true)
def tyX6 : Nat → FieldType := fun k => match k with
  | 0 => .object "RunnerNet$Net"
  | 1 => .int
  | 2 => .int
  | _ => .array .int
theorem nmX6 : ∀ a, a < 4 → ∀ b, b < 4 → a ≠ b → (TX6 a).2.1 ≠ (TX6 b).2.1 := by decide +kernel
theorem tyX6_ok : ∀ k, k < 4 → parseFieldDescriptor (TX6 k).2.2.1 = some (tyX6 k) := by decide +kernel
def RX7 : String := "RunnerNet$Text"
def TX7 : u_T := fun k => match k with
  | 0 => ("RunnerNet$Text", "bytes", "[I", true)
  | 1 => ("RunnerNet$Text", "length", "I", false)
  | 2 => ("RunnerNet$Text", "tokenStart", "I", false)
  | 3 => ("RunnerNet$Text", "tokenEnd", "I", false)
  | 4 => ("RunnerNet$Text", "placesThen", "I", false)
  | 5 => ("RunnerNet$Text", "lines", "I", false)
  | 6 => ("RunnerNet$Text", "kinds", "[I", true)
  | 7 => ("RunnerNet$Text", "firsts", "[I", true)
  | _ => ("RunnerNet$Text", "seconds", "[I", true)
def tyX7 : Nat → FieldType := fun k => match k with
  | 0 => .array .int
  | 1 => .int
  | 2 => .int
  | 3 => .int
  | 4 => .int
  | 5 => .int
  | 6 => .array .int
  | 7 => .array .int
  | _ => .array .int
theorem nmX7 : ∀ a, a < 9 → ∀ b, b < 9 → a ≠ b → (TX7 a).2.1 ≠ (TX7 b).2.1 := by decide +kernel
theorem tyX7_ok : ∀ k, k < 9 → parseFieldDescriptor (TX7 k).2.2.1 = some (tyX7 k) := by decide +kernel
def RX8 : String := "RunnerNet$Unseen"
def TX8 : u_T := fun k => match k with
  | 0 => ("RunnerNet$Unseen", "net", "LRunnerNet$Net;", true)
  | 1 => ("RunnerNet$Unseen", "stands", "[I", true)
  | 2 => ("RunnerNet$Unseen", "parents", "[I", true)
  | 3 => ("RunnerNet$Unseen", "met", "[I", true)
  | 4 => ("RunnerNet$Unseen", "settings", "LRunnerNet$Settings;", false)
  | 5 => ("RunnerNet$Unseen", "count", "I", false)
  | 6 => ("RunnerNet$Unseen", "end", "I", false)
  | 7 => ("RunnerNet$Unseen", "length", "I", false)
  | 8 => ("RunnerNet$Unseen", "solvedFor", "I", false)
  | _ => ("RunnerNet$Unseen", "solvedFirst", "I", false)
def tyX8 : Nat → FieldType := fun k => match k with
  | 0 => .object "RunnerNet$Net"
  | 1 => .array .int
  | 2 => .array .int
  | 3 => .array .int
  | 4 => .object "RunnerNet$Settings"
  | 5 => .int
  | 6 => .int
  | 7 => .int
  | 8 => .int
  | _ => .int
theorem nmX8 : ∀ a, a < 10 → ∀ b, b < 10 → a ≠ b → (TX8 a).2.1 ≠ (TX8 b).2.1 := by decide +kernel
theorem tyX8_ok : ∀ k, k < 10 → parseFieldDescriptor (TX8 k).2.2.1 = some (tyX8 k) := by decide +kernel
def RX9 : String := "RunnerNet"
def TX9 : u_T := fun k => match k with
  | 0 => ("RunnerNet", "net", "LRunnerNet$Net;", true)
  | 1 => ("RunnerNet", "text", "LRunnerNet$Text;", true)
  | 2 => ("RunnerNet", "settings", "[LRunnerNet$Settings;", true)
  | 3 => ("RunnerNet", "chases", "[LRunnerNet$Chase;", true)
  | 4 => ("RunnerNet", "game", "LRunnerNet$Play;", true)
  | 5 => ("RunnerNet", "unseen", "LRunnerNet$Unseen;", true)
  | 6 => ("RunnerNet", "ordersUnseen", "LRunnerNet$Orders;", true)
  | 7 => ("RunnerNet", "ordersSeen", "LRunnerNet$Orders;", true)
  | 8 => ("RunnerNet", "covers", "LRunnerNet$Covers;", true)
  | _ => ("RunnerNet", "watches", "[LRunnerNet$Guards;", true)
def tyX9 : Nat → FieldType := fun k => match k with
  | 0 => .object "RunnerNet$Net"
  | 1 => .object "RunnerNet$Text"
  | 2 => .array (.object "RunnerNet$Settings")
  | 3 => .array (.object "RunnerNet$Chase")
  | 4 => .object "RunnerNet$Play"
  | 5 => .object "RunnerNet$Unseen"
  | 6 => .object "RunnerNet$Orders"
  | 7 => .object "RunnerNet$Orders"
  | 8 => .object "RunnerNet$Covers"
  | _ => .array (.object "RunnerNet$Guards")
theorem nmX9 : ∀ a, a < 10 → ∀ b, b < 10 → a ≠ b → (TX9 a).2.1 ≠ (TX9 b).2.1 := by decide +kernel
theorem tyX9_ok : ∀ k, k < 10 → parseFieldDescriptor (TX9 k).2.2.1 = some (tyX9 k) := by decide +kernel
def RX10 : String := "RunnerNetModel"
def TX10 : u_T := fun k => match k with
  | 0 => ("RunnerNetModel", "n", "I", false)
  | 1 => ("RunnerNetModel", "roads", "[I", true)
  | 2 => ("RunnerNetModel", "bytes", "I", false)
  | 3 => ("RunnerNetModel", "text", "[I", true)
  | 4 => ("RunnerNetModel", "position", "I", false)
  | 5 => ("RunnerNetModel", "tokenAt", "I", false)
  | 6 => ("RunnerNetModel", "token", "J", false)
  | 7 => ("RunnerNetModel", "digits", "I", false)
  | 8 => ("RunnerNetModel", "number", "I", false)
  | 9 => ("RunnerNetModel", "faultAt", "I", false)
  | 10 => ("RunnerNetModel", "below", "I", false)
  | 11 => ("RunnerNetModel", "readMany", "I", false)
  | 12 => ("RunnerNetModel", "read", "[I", true)
  | 13 => ("RunnerNetModel", "isReckoned", "[Z", true)
  | 14 => ("RunnerNetModel", "left", "[I", true)
  | 15 => ("RunnerNetModel", "flights", "[I", true)
  | 16 => ("RunnerNetModel", "good", "[I", true)
  | 17 => ("RunnerNetModel", "digit", "[I", true)
  | 18 => ("RunnerNetModel", "went", "[I", true)
  | 19 => ("RunnerNetModel", "playK", "I", false)
  | 20 => ("RunnerNetModel", "playS", "I", false)
  | 21 => ("RunnerNetModel", "playSetting", "I", false)
  | 22 => ("RunnerNetModel", "playPlace", "I", false)
  | 23 => ("RunnerNetModel", "playRounds", "I", false)
  | 24 => ("RunnerNetModel", "isPlay", "Z", false)
  | 25 => ("RunnerNetModel", "from", "[I", true)
  | 26 => ("RunnerNetModel", "queue", "[I", true)
  | 27 => ("RunnerNetModel", "found", "I", false)
  | 28 => ("RunnerNetModel", "isFreed", "[Z", true)
  | 29 => ("RunnerNetModel", "freeSetting", "[I", true)
  | 30 => ("RunnerNetModel", "freeSteps", "[I", true)
  | 31 => ("RunnerNetModel", "both", "[I", true)
  | 32 => ("RunnerNetModel", "rest", "[I", true)
  | 33 => ("RunnerNetModel", "cost", "[I", true)
  | 34 => ("RunnerNetModel", "taken", "[I", true)
  | 35 => ("RunnerNetModel", "takenMany", "I", false)
  | 36 => ("RunnerNetModel", "isGuarded", "Z", false)
  | 37 => ("RunnerNetModel", "goes", "[Z", true)
  | 38 => ("RunnerNetModel", "isSafe", "[Z", true)
  | 39 => ("RunnerNetModel", "some", "[Z", true)
  | _ => ("RunnerNetModel", "more", "[Z", true)
def tyX10 : Nat → FieldType := fun k => match k with
  | 0 => .int
  | 1 => .array .int
  | 2 => .int
  | 3 => .array .int
  | 4 => .int
  | 5 => .int
  | 6 => .long
  | 7 => .int
  | 8 => .int
  | 9 => .int
  | 10 => .int
  | 11 => .int
  | 12 => .array .int
  | 13 => .array .boolean
  | 14 => .array .int
  | 15 => .array .int
  | 16 => .array .int
  | 17 => .array .int
  | 18 => .array .int
  | 19 => .int
  | 20 => .int
  | 21 => .int
  | 22 => .int
  | 23 => .int
  | 24 => .boolean
  | 25 => .array .int
  | 26 => .array .int
  | 27 => .int
  | 28 => .array .boolean
  | 29 => .array .int
  | 30 => .array .int
  | 31 => .array .int
  | 32 => .array .int
  | 33 => .array .int
  | 34 => .array .int
  | 35 => .int
  | 36 => .boolean
  | 37 => .array .boolean
  | 38 => .array .boolean
  | 39 => .array .boolean
  | _ => .array .boolean
theorem nmX10 : ∀ a, a < 41 → ∀ b, b < 41 → a ≠ b → (TX10 a).2.1 ≠ (TX10 b).2.1 := by decide +kernel
theorem tyX10_ok : ∀ k, k < 41 → parseFieldDescriptor (TX10 k).2.2.1 = some (tyX10 k) := by decide +kernel
def RJ6 : String := "java/lang/Integer"
def RJ13 : String := "java/lang/Long"
def RJ0 : String := "java/lang/String"
def RJ1 : String := "java/lang/StringLatin1"
def RJ3 : String := "jdk/internal/util/Preconditions"
def RJ7 : String := "java/util/Arrays"
abbrev cX0_init : ByteArray := prog_2_method_1_code
def yX0_init : MethodName := ⟨RX0, "<init>", "(LRunnerNet$Net;LRunnerNet$Settings;I)V"⟩
abbrev cX0_solve : ByteArray := prog_2_method_2_code
def yX0_solve : MethodName := ⟨RX0, "solve", "()V"⟩
abbrev cX0_roundsFrom : ByteArray := prog_2_method_3_code
def yX0_roundsFrom : MethodName := ⟨RX0, "roundsFrom", "(II)I"⟩
abbrev cX0_mostFrom : ByteArray := prog_2_method_4_code
def yX0_mostFrom : MethodName := ⟨RX0, "mostFrom", "(I)I"⟩
abbrev cX0_bestSetting : ByteArray := prog_2_method_5_code
def yX0_bestSetting : MethodName := ⟨RX0, "bestSetting", "()I"⟩
abbrev cX0_countEndless : ByteArray := prog_2_method_6_code
def yX0_countEndless : MethodName := ⟨RX0, "countEndless", "()I"⟩
abbrev cX0_bestMove : ByteArray := prog_2_method_7_code
def yX0_bestMove : MethodName := ⟨RX0, "bestMove", "(II)I"⟩
abbrev cX0_bestFlight : ByteArray := prog_2_method_8_code
def yX0_bestFlight : MethodName := ⟨RX0, "bestFlight", "(II)I"⟩
abbrev cX0_flights : ByteArray := prog_2_method_9_code
def yX0_flights : MethodName := ⟨RX0, "flights", "(II)I"⟩
abbrev cX0_leftAt : ByteArray := prog_2_method_10_code
def yX0_leftAt : MethodName := ⟨RX0, "leftAt", "(II)I"⟩
abbrev cX0_mostAmong : ByteArray := prog_2_method_11_code
def yX0_mostAmong : MethodName := ⟨RX0, "mostAmong", "(II)I"⟩
abbrev cX0_begin : ByteArray := prog_2_method_12_code
def yX0_begin : MethodName := ⟨RX0, "begin", "()V"⟩
abbrev cX0_trap : ByteArray := prog_2_method_13_code
def yX0_trap : MethodName := ⟨RX0, "trap", "()V"⟩
abbrev cX0_widen : ByteArray := prog_2_method_14_code
def yX0_widen : MethodName := ⟨RX0, "widen", "(I)V"⟩
abbrev cX0_joinRows : ByteArray := prog_2_method_15_code
def yX0_joinRows : MethodName := ⟨RX0, "joinRows", "(III)V"⟩
abbrev cX0_note : ByteArray := prog_2_method_16_code
def yX0_note : MethodName := ⟨RX0, "note", "(I)Z"⟩
abbrev cX1_init : ByteArray := prog_3_method_1_code
def yX1_init : MethodName := ⟨RX1, "<init>", "(LRunnerNet$Net;)V"⟩
abbrev cX1_takenAway : ByteArray := prog_3_method_2_code
def yX1_takenAway : MethodName := ⟨RX1, "takenAway", "(I)I"⟩
abbrev cX1_leastCovered : ByteArray := prog_3_method_3_code
def yX1_leastCovered : MethodName := ⟨RX1, "leastCovered", "(I)I"⟩
abbrev cX1_isCovered : ByteArray := prog_3_method_4_code
def yX1_isCovered : MethodName := ⟨RX1, "isCovered", "(II)Z"⟩
abbrev cX1_leastSet : ByteArray := prog_3_method_5_code
def yX1_leastSet : MethodName := ⟨RX1, "leastSet", "(Z)I"⟩
abbrev cX1_touchesAll : ByteArray := prog_3_method_6_code
def yX1_touchesAll : MethodName := ⟨RX1, "touchesAll", "(I)Z"⟩
abbrev cX2_init : ByteArray := prog_4_method_1_code
def yX2_init : MethodName := ⟨RX2, "<init>", "(LRunnerNet$Net;I)V"⟩
abbrev cX2_holdsOut : ByteArray := prog_4_method_2_code
def yX2_holdsOut : MethodName := ⟨RX2, "holdsOut", "(I)Z"⟩
abbrev cX2_leastSet : ByteArray := prog_4_method_3_code
def yX2_leastSet : MethodName := ⟨RX2, "leastSet", "()I"⟩
abbrev cX2_countSets : ByteArray := prog_4_method_4_code
def yX2_countSets : MethodName := ⟨RX2, "countSets", "(I)I"⟩
abbrev cX2_leastAnswer : ByteArray := prog_4_method_5_code
def yX2_leastAnswer : MethodName := ⟨RX2, "leastAnswer", "(II)I"⟩
abbrev cX2_isSafe : ByteArray := prog_4_method_6_code
def yX2_isSafe : MethodName := ⟨RX2, "isSafe", "(I)Z"⟩
abbrev cX2_answersIn : ByteArray := prog_4_method_7_code
def yX2_answersIn : MethodName := ⟨RX2, "answersIn", "(III)J"⟩
abbrev cX2_having : ByteArray := prog_4_method_8_code
def yX2_having : MethodName := ⟨RX2, "having", "(II)J"⟩
abbrev cX2_solve : ByteArray := prog_4_method_9_code
def yX2_solve : MethodName := ⟨RX2, "solve", "()V"⟩
abbrev cX2_dropUnsafe : ByteArray := prog_4_method_10_code
def yX2_dropUnsafe : MethodName := ⟨RX2, "dropUnsafe", "()Z"⟩
abbrev cX2_answersAll : ByteArray := prog_4_method_11_code
def yX2_answersAll : MethodName := ⟨RX2, "answersAll", "(I)Z"⟩
abbrev cX2_put : ByteArray := prog_4_method_12_code
def yX2_put : MethodName := ⟨RX2, "put", "([JII)V"⟩
abbrev cX2_moveAlone : ByteArray := prog_4_method_13_code
def yX2_moveAlone : MethodName := ⟨RX2, "moveAlone", "()V"⟩
abbrev cX2_moveTogether : ByteArray := prog_4_method_14_code
def yX2_moveTogether : MethodName := ⟨RX2, "moveTogether", "()V"⟩
abbrev cX2_addPlace : ByteArray := prog_4_method_15_code
def yX2_addPlace : MethodName := ⟨RX2, "addPlace", "(III)V"⟩
abbrev cX3_init : ByteArray := prog_5_method_1_code
def yX3_init : MethodName := ⟨RX3, "<init>", "(I)V"⟩
abbrev cX3_places : ByteArray := prog_5_method_2_code
def yX3_places : MethodName := ⟨RX3, "places", "()I"⟩
abbrev cX3_changes : ByteArray := prog_5_method_3_code
def yX3_changes : MethodName := ⟨RX3, "changes", "()I"⟩
abbrev cX3_all : ByteArray := prog_5_method_4_code
def yX3_all : MethodName := ⟨RX3, "all", "()I"⟩
abbrev cX3_known : ByteArray := prog_5_method_5_code
def yX3_known : MethodName := ⟨RX3, "known", "(I)Z"⟩
abbrev cX3_holdsAll : ByteArray := prog_5_method_6_code
def yX3_holdsAll : MethodName := ⟨RX3, "holdsAll", "(I)Z"⟩
abbrev cX3_reset : ByteArray := prog_5_method_7_code
def yX3_reset : MethodName := ⟨RX3, "reset", "(I)V"⟩
abbrev cX3_set : ByteArray := prog_5_method_8_code
def yX3_set : MethodName := ⟨RX3, "set", "(IIZ)V"⟩
abbrev cX3_settle : ByteArray := prog_5_method_9_code
def yX3_settle : MethodName := ⟨RX3, "settle", "()V"⟩
abbrev cX3_outOf : ByteArray := prog_5_method_10_code
def yX3_outOf : MethodName := ⟨RX3, "outOf", "(I)I"⟩
abbrev cX3_bothWays : ByteArray := prog_5_method_11_code
def yX3_bothWays : MethodName := ⟨RX3, "bothWays", "(I)I"⟩
abbrev cX3_aheadOf : ByteArray := prog_5_method_12_code
def yX3_aheadOf : MethodName := ⟨RX3, "aheadOf", "(I)I"⟩
abbrev cX3_behindOf : ByteArray := prog_5_method_13_code
def yX3_behindOf : MethodName := ⟨RX3, "behindOf", "(I)I"⟩
abbrev cX3_around : ByteArray := prog_5_method_14_code
def yX3_around : MethodName := ⟨RX3, "around", "(I)I"⟩
abbrev cX3_leftBehind : ByteArray := prog_5_method_15_code
def yX3_leftBehind : MethodName := ⟨RX3, "leftBehind", "(II)I"⟩
abbrev cX3_distance : ByteArray := prog_5_method_16_code
def yX3_distance : MethodName := ⟨RX3, "distance", "(II)I"⟩
abbrev cX3_pairs : ByteArray := prog_5_method_17_code
def yX3_pairs : MethodName := ⟨RX3, "pairs", "()I"⟩
abbrev cX4_init : ByteArray := prog_6_method_1_code
def yX4_init : MethodName := ⟨RX4, "<init>", "(LRunnerNet$Net;Z)V"⟩
abbrev cX4_hunters : ByteArray := prog_6_method_2_code
def yX4_hunters : MethodName := ⟨RX4, "hunters", "()I"⟩
abbrev cX4_placeAt : ByteArray := prog_6_method_3_code
def yX4_placeAt : MethodName := ⟨RX4, "placeAt", "(I)I"⟩
abbrev cX4_solve : ByteArray := prog_6_method_4_code
def yX4_solve : MethodName := ⟨RX4, "solve", "()V"⟩
abbrev cX4_choose : ByteArray := prog_6_method_5_code
def yX4_choose : MethodName := ⟨RX4, "choose", "()V"⟩
abbrev cX4_most : ByteArray := prog_6_method_6_code
def yX4_most : MethodName := ⟨RX4, "most", "(II)I"⟩
abbrev cX4_border : ByteArray := prog_6_method_7_code
def yX4_border : MethodName := ⟨RX4, "border", "(I)I"⟩
abbrev cX4_neighbours : ByteArray := prog_6_method_8_code
def yX4_neighbours : MethodName := ⟨RX4, "neighbours", "(II)I"⟩
abbrev cX5_init : ByteArray := prog_7_method_1_code
def yX5_init : MethodName := ⟨RX5, "<init>", "()V"⟩
abbrev cX5_isOn : ByteArray := prog_7_method_2_code
def yX5_isOn : MethodName := ⟨RX5, "isOn", "()Z"⟩
abbrev cX5_hunters : ByteArray := prog_7_method_3_code
def yX5_hunters : MethodName := ⟨RX5, "hunters", "()I"⟩
abbrev cX5_speed : ByteArray := prog_7_method_4_code
def yX5_speed : MethodName := ⟨RX5, "speed", "()I"⟩
abbrev cX5_setting : ByteArray := prog_7_method_5_code
def yX5_setting : MethodName := ⟨RX5, "setting", "()I"⟩
abbrev cX5_place : ByteArray := prog_7_method_6_code
def yX5_place : MethodName := ⟨RX5, "place", "()I"⟩
abbrev cX5_gone : ByteArray := prog_7_method_7_code
def yX5_gone : MethodName := ⟨RX5, "gone", "()I"⟩
abbrev cX5_begin : ByteArray := prog_7_method_8_code
def yX5_begin : MethodName := ⟨RX5, "begin", "(IIII)V"⟩
abbrev cX5_go : ByteArray := prog_7_method_9_code
def yX5_go : MethodName := ⟨RX5, "go", "(II)V"⟩
abbrev cX5_end : ByteArray := prog_7_method_10_code
def yX5_end : MethodName := ⟨RX5, "end", "()V"⟩
abbrev cX6_init : ByteArray := prog_8_method_1_code
def yX6_init : MethodName := ⟨RX6, "<init>", "(LRunnerNet$Net;I)V"⟩
abbrev cX6_hunters : ByteArray := prog_8_method_2_code
def yX6_hunters : MethodName := ⟨RX6, "hunters", "()I"⟩
abbrev cX6_size : ByteArray := prog_8_method_3_code
def yX6_size : MethodName := ⟨RX6, "size", "()I"⟩
abbrev cX6_figure : ByteArray := prog_8_method_4_code
def yX6_figure : MethodName := ⟨RX6, "figure", "(II)I"⟩
abbrev cX6_placesOf : ByteArray := prog_8_method_5_code
def yX6_placesOf : MethodName := ⟨RX6, "placesOf", "(I)I"⟩
abbrev cX6_holds : ByteArray := prog_8_method_6_code
def yX6_holds : MethodName := ⟨RX6, "holds", "(II)Z"⟩
abbrev cX6_isRow : ByteArray := prog_8_method_7_code
def yX6_isRow : MethodName := ⟨RX6, "isRow", "(I)Z"⟩
abbrev cX6_isSetting : ByteArray := prog_8_method_8_code
def yX6_isSetting : MethodName := ⟨RX6, "isSetting", "(I)Z"⟩
abbrev cX6_told : ByteArray := prog_8_method_9_code
def yX6_told : MethodName := ⟨RX6, "told", "(I)I"⟩
abbrev cX6_rising : ByteArray := prog_8_method_10_code
def yX6_rising : MethodName := ⟨RX6, "rising", "(I)I"⟩
abbrev cX6_canStep : ByteArray := prog_8_method_11_code
def yX6_canStep : MethodName := ⟨RX6, "canStep", "(II)Z"⟩
abbrev cX7_init : ByteArray := prog_9_method_1_code
def yX7_init : MethodName := ⟨RX7, "<init>", "()V"⟩
abbrev cX7_length : ByteArray := prog_9_method_2_code
def yX7_length : MethodName := ⟨RX7, "length", "()I"⟩
abbrev cX7_drop : ByteArray := prog_9_method_3_code
def yX7_drop : MethodName := ⟨RX7, "drop", "()V"⟩
abbrev cX7_append : ByteArray := prog_9_method_4_code
def yX7_append : MethodName := ⟨RX7, "append", "(JI)Z"⟩
abbrev cX7_read : ByteArray := prog_9_method_5_code
def yX7_read : MethodName := ⟨RX7, "read", "(I)I"⟩
abbrev cX7_layOn : ByteArray := prog_9_method_6_code
def yX7_layOn : MethodName := ⟨RX7, "layOn", "(LRunnerNet$Net;)V"⟩
abbrev cX7_readLine : ByteArray := prog_9_method_7_code
def yX7_readLine : MethodName := ⟨RX7, "readLine", "(I)Z"⟩
abbrev cX7_byteAt : ByteArray := prog_9_method_8_code
def yX7_byteAt : MethodName := ⟨RX7, "byteAt", "(I)I"⟩
abbrev cX7_kindAt : ByteArray := prog_9_method_9_code
def yX7_kindAt : MethodName := ⟨RX7, "kindAt", "(I)I"⟩
abbrev cX7_nextToken : ByteArray := prog_9_method_10_code
def yX7_nextToken : MethodName := ⟨RX7, "nextToken", "()V"⟩
abbrev cX7_lineKind : ByteArray := prog_9_method_11_code
def yX7_lineKind : MethodName := ⟨RX7, "lineKind", "()I"⟩
abbrev cX7_isWord : ByteArray := prog_9_method_12_code
def yX7_isWord : MethodName := ⟨RX7, "isWord", "(Ljava/lang/String;)Z"⟩
abbrev cX7_number : ByteArray := prog_9_method_13_code
def yX7_number : MethodName := ⟨RX7, "number", "()I"⟩
abbrev cX8_init : ByteArray := prog_10_method_1_code
def yX8_init : MethodName := ⟨RX8, "<init>", "(LRunnerNet$Net;LRunnerNet$Settings;)V"⟩
abbrev cX8_length : ByteArray := prog_10_method_2_code
def yX8_length : MethodName := ⟨RX8, "length", "()I"⟩
abbrev cX8_settingAt : ByteArray := prog_10_method_3_code
def yX8_settingAt : MethodName := ⟨RX8, "settingAt", "(I)I"⟩
abbrev cX8_search : ByteArray := prog_10_method_4_code
def yX8_search : MethodName := ⟨RX8, "search", "(LRunnerNet$Settings;I)V"⟩
abbrev cX8_parentOf : ByteArray := prog_10_method_5_code
def yX8_parentOf : MethodName := ⟨RX8, "parentOf", "(I)I"⟩
abbrev cX8_depthOf : ByteArray := prog_10_method_6_code
def yX8_depthOf : MethodName := ⟨RX8, "depthOf", "(I)I"⟩
abbrev cX8_expand : ByteArray := prog_10_method_7_code
def yX8_expand : MethodName := ⟨RX8, "expand", "(I)V"⟩
abbrev cX8_step : ByteArray := prog_10_method_8_code
def yX8_step : MethodName := ⟨RX8, "step", "(II)V"⟩
abbrev cX8_meet : ByteArray := prog_10_method_9_code
def yX8_meet : MethodName := ⟨RX8, "meet", "(III)V"⟩
abbrev cX9_init : ByteArray := prog_1_method_1_code
def yX9_init : MethodName := ⟨RX9, "<init>", "()V"⟩
abbrev cX9_write : ByteArray := prog_1_method_2_code
def yX9_write : MethodName := ⟨RX9, "write", "(JI)I"⟩
abbrev cX9_erase : ByteArray := prog_1_method_3_code
def yX9_erase : MethodName := ⟨RX9, "erase", "()I"⟩
abbrev cX9_fault : ByteArray := prog_1_method_4_code
def yX9_fault : MethodName := ⟨RX9, "fault", "()I"⟩
abbrev cX9_laid : ByteArray := prog_1_method_5_code
def yX9_laid : MethodName := ⟨RX9, "laid", "()I"⟩
abbrev cX9_road : ByteArray := prog_1_method_6_code
def yX9_road : MethodName := ⟨RX9, "road", "(IIZZ)I"⟩
abbrev cX9_steps : ByteArray := prog_1_method_7_code
def yX9_steps : MethodName := ⟨RX9, "steps", "(I)I"⟩
abbrev cX9_far : ByteArray := prog_1_method_8_code
def yX9_far : MethodName := ⟨RX9, "far", "(II)I"⟩
abbrev cX9_rounds : ByteArray := prog_1_method_9_code
def yX9_rounds : MethodName := ⟨RX9, "rounds", "(IIII)I"⟩
abbrev cX9_worth : ByteArray := prog_1_method_10_code
def yX9_worth : MethodName := ⟨RX9, "worth", "(III)I"⟩
abbrev cX9_best : ByteArray := prog_1_method_11_code
def yX9_best : MethodName := ⟨RX9, "best", "(III)I"⟩
abbrev cX9_fewest : ByteArray := prog_1_method_12_code
def yX9_fewest : MethodName := ⟨RX9, "fewest", "(I)I"⟩
abbrev cX9_escapes : ByteArray := prog_1_method_13_code
def yX9_escapes : MethodName := ⟨RX9, "escapes", "(II)I"⟩
abbrev cX9_hunt : ByteArray := prog_1_method_14_code
def yX9_hunt : MethodName := ⟨RX9, "hunt", "(IIII)I"⟩
abbrev cX9_flee : ByteArray := prog_1_method_15_code
def yX9_flee : MethodName := ⟨RX9, "flee", "(IIII)I"⟩
abbrev cX9_play : ByteArray := prog_1_method_16_code
def yX9_play : MethodName := ⟨RX9, "play", "(IIII)I"⟩
abbrev cX9_turn : ByteArray := prog_1_method_17_code
def yX9_turn : MethodName := ⟨RX9, "turn", "(II)I"⟩
abbrev cX9_now : ByteArray := prog_1_method_18_code
def yX9_now : MethodName := ⟨RX9, "now", "(I)I"⟩
abbrev cX9_spread : ByteArray := prog_1_method_19_code
def yX9_spread : MethodName := ⟨RX9, "spread", "(III)I"⟩
abbrev cX9_clear : ByteArray := prog_1_method_20_code
def yX9_clear : MethodName := ⟨RX9, "clear", "(III)I"⟩
abbrev cX9_free : ByteArray := prog_1_method_21_code
def yX9_free : MethodName := ⟨RX9, "free", "(II)I"⟩
abbrev cX9_flying : ByteArray := prog_1_method_22_code
def yX9_flying : MethodName := ⟨RX9, "flying", "(ZI)I"⟩
abbrev cX9_away : ByteArray := prog_1_method_23_code
def yX9_away : MethodName := ⟨RX9, "away", "(I)I"⟩
abbrev cX9_least : ByteArray := prog_1_method_24_code
def yX9_least : MethodName := ⟨RX9, "least", "(I)I"⟩
abbrev cX9_safe : ByteArray := prog_1_method_25_code
def yX9_safe : MethodName := ⟨RX9, "safe", "(II)I"⟩
abbrev cX9_guards : ByteArray := prog_1_method_26_code
def yX9_guards : MethodName := ⟨RX9, "guards", "(II)I"⟩
abbrev cX9_answer : ByteArray := prog_1_method_27_code
def yX9_answer : MethodName := ⟨RX9, "answer", "(III)I"⟩
abbrev cX9_count : ByteArray := prog_1_method_28_code
def yX9_count : MethodName := ⟨RX9, "count", "(I)I"⟩
abbrev cX9_has : ByteArray := prog_1_method_29_code
def yX9_has : MethodName := ⟨RX9, "has", "(II)Z"⟩
abbrev cX9_isChase : ByteArray := prog_1_method_30_code
def yX9_isChase : MethodName := ⟨RX9, "isChase", "(II)Z"⟩
abbrev cX9_isWatch : ByteArray := prog_1_method_31_code
def yX9_isWatch : MethodName := ⟨RX9, "isWatch", "(II)Z"⟩
abbrev cX9_settings : ByteArray := prog_1_method_32_code
def yX9_settings : MethodName := ⟨RX9, "settings", "(I)LRunnerNet$Settings;"⟩
abbrev cX9_chase : ByteArray := prog_1_method_33_code
def yX9_chase : MethodName := ⟨RX9, "chase", "(II)LRunnerNet$Chase;"⟩
abbrev cX9_refuseStand : ByteArray := prog_1_method_34_code
def yX9_refuseStand : MethodName := ⟨RX9, "refuseStand", "(IIII)I"⟩
abbrev cX9_isCaught : ByteArray := prog_1_method_35_code
def yX9_isCaught : MethodName := ⟨RX9, "isCaught", "()Z"⟩
abbrev cX9_settingBehind : ByteArray := prog_1_method_36_code
def yX9_settingBehind : MethodName := ⟨RX9, "settingBehind", "(I)I"⟩
abbrev cX9_placeBehind : ByteArray := prog_1_method_37_code
def yX9_placeBehind : MethodName := ⟨RX9, "placeBehind", "(II)I"⟩
abbrev cX10_init : ByteArray := prog_12_method_1_code
def yX10_init : MethodName := ⟨RX10, "<init>", "()V"⟩
abbrev cX10_in : ByteArray := prog_12_method_2_code
def yX10_in : MethodName := ⟨RX10, "in", "(III)Z"⟩
abbrev cX10_isPlace : ByteArray := prog_12_method_3_code
def yX10_isPlace : MethodName := ⟨RX10, "isPlace", "(I)Z"⟩
abbrev cX10_bits : ByteArray := prog_12_method_4_code
def yX10_bits : MethodName := ⟨RX10, "bits", "(I)I"⟩
abbrev cX10_stepsOf : ByteArray := prog_12_method_5_code
def yX10_stepsOf : MethodName := ⟨RX10, "stepsOf", "(I)I"⟩
abbrev cX10_forget : ByteArray := prog_12_method_6_code
def yX10_forget : MethodName := ⟨RX10, "forget", "()V"⟩
abbrev cX10_write : ByteArray := prog_12_method_7_code
def yX10_write : MethodName := ⟨RX10, "write", "(JI)I"⟩
abbrev cX10_erase : ByteArray := prog_12_method_8_code
def yX10_erase : MethodName := ⟨RX10, "erase", "()I"⟩
abbrev cX10_nextToken : ByteArray := prog_12_method_9_code
def yX10_nextToken : MethodName := ⟨RX10, "nextToken", "()V"⟩
abbrev cX10_fails : ByteArray := prog_12_method_10_code
def yX10_fails : MethodName := ⟨RX10, "fails", "()Z"⟩
abbrev cX10_isNumber : ByteArray := prog_12_method_11_code
def yX10_isNumber : MethodName := ⟨RX10, "isNumber", "(III)Z"⟩
abbrev cX10_isLine : ByteArray := prog_12_method_12_code
def yX10_isLine : MethodName := ⟨RX10, "isLine", "(I)Z"⟩
abbrev cX10_isRead : ByteArray := prog_12_method_13_code
def yX10_isRead : MethodName := ⟨RX10, "isRead", "()Z"⟩
abbrev cX10_fault : ByteArray := prog_12_method_14_code
def yX10_fault : MethodName := ⟨RX10, "fault", "()I"⟩
abbrev cX10_laid : ByteArray := prog_12_method_15_code
def yX10_laid : MethodName := ⟨RX10, "laid", "()I"⟩
abbrev cX10_road : ByteArray := prog_12_method_16_code
def yX10_road : MethodName := ⟨RX10, "road", "(IIZZ)I"⟩
abbrev cX10_steps : ByteArray := prog_12_method_17_code
def yX10_steps : MethodName := ⟨RX10, "steps", "(I)I"⟩
abbrev cX10_stepped : ByteArray := prog_12_method_18_code
def yX10_stepped : MethodName := ⟨RX10, "stepped", "(I)I"⟩
abbrev cX10_far : ByteArray := prog_12_method_19_code
def yX10_far : MethodName := ⟨RX10, "far", "(II)I"⟩
abbrev cX10_spell : ByteArray := prog_12_method_20_code
def yX10_spell : MethodName := ⟨RX10, "spell", "(II)V"⟩
abbrev cX10_settled : ByteArray := prog_12_method_21_code
def yX10_settled : MethodName := ⟨RX10, "settled", "(I)I"⟩
abbrev cX10_powerOf : ByteArray := prog_12_method_22_code
def yX10_powerOf : MethodName := ⟨RX10, "powerOf", "(I)I"⟩
abbrev cX10_isSetting : ByteArray := prog_12_method_23_code
def yX10_isSetting : MethodName := ⟨RX10, "isSetting", "(II)Z"⟩
abbrev cX10_placesOf : ByteArray := prog_12_method_24_code
def yX10_placesOf : MethodName := ⟨RX10, "placesOf", "(II)I"⟩
abbrev cX10_moved : ByteArray := prog_12_method_25_code
def yX10_moved : MethodName := ⟨RX10, "moved", "(III)I"⟩
abbrev cX10_at : ByteArray := prog_12_method_26_code
def yX10_at : MethodName := ⟨RX10, "at", "(IIII)I"⟩
abbrev cX10_flight : ByteArray := prog_12_method_27_code
def yX10_flight : MethodName := ⟨RX10, "flight", "(III)I"⟩
abbrev cX10_behind : ByteArray := prog_12_method_28_code
def yX10_behind : MethodName := ⟨RX10, "behind", "(IIII)I"⟩
abbrev cX10_findFlights : ByteArray := prog_12_method_29_code
def yX10_findFlights : MethodName := ⟨RX10, "findFlights", "(II)V"⟩
abbrev cX10_leavable : ByteArray := prog_12_method_30_code
def yX10_leavable : MethodName := ⟨RX10, "leavable", "(II)I"⟩
abbrev cX10_findGood : ByteArray := prog_12_method_31_code
def yX10_findGood : MethodName := ⟨RX10, "findGood", "(III)V"⟩
abbrev cX10_reckon : ByteArray := prog_12_method_32_code
def yX10_reckon : MethodName := ⟨RX10, "reckon", "(II)V"⟩
abbrev cX10_isChase : ByteArray := prog_12_method_33_code
def yX10_isChase : MethodName := ⟨RX10, "isChase", "(II)Z"⟩
abbrev cX10_told : ByteArray := prog_12_method_34_code
def yX10_told : MethodName := ⟨RX10, "told", "(II)I"⟩
abbrev cX10_rounds : ByteArray := prog_12_method_35_code
def yX10_rounds : MethodName := ⟨RX10, "rounds", "(IIII)I"⟩
abbrev cX10_worthOf : ByteArray := prog_12_method_36_code
def yX10_worthOf : MethodName := ⟨RX10, "worthOf", "(III)I"⟩
abbrev cX10_worth : ByteArray := prog_12_method_37_code
def yX10_worth : MethodName := ⟨RX10, "worth", "(III)I"⟩
abbrev cX10_bestOf : ByteArray := prog_12_method_38_code
def yX10_bestOf : MethodName := ⟨RX10, "bestOf", "(II)I"⟩
abbrev cX10_best : ByteArray := prog_12_method_39_code
def yX10_best : MethodName := ⟨RX10, "best", "(III)I"⟩
abbrev cX10_fewest : ByteArray := prog_12_method_40_code
def yX10_fewest : MethodName := ⟨RX10, "fewest", "(I)I"⟩
abbrev cX10_escapes : ByteArray := prog_12_method_41_code
def yX10_escapes : MethodName := ⟨RX10, "escapes", "(II)I"⟩
abbrev cX10_huntOf : ByteArray := prog_12_method_42_code
def yX10_huntOf : MethodName := ⟨RX10, "huntOf", "(IIII)I"⟩
abbrev cX10_fleeOf : ByteArray := prog_12_method_43_code
def yX10_fleeOf : MethodName := ⟨RX10, "fleeOf", "(IIII)I"⟩
abbrev cX10_hunt : ByteArray := prog_12_method_44_code
def yX10_hunt : MethodName := ⟨RX10, "hunt", "(IIII)I"⟩
abbrev cX10_flee : ByteArray := prog_12_method_45_code
def yX10_flee : MethodName := ⟨RX10, "flee", "(IIII)I"⟩
abbrev cX10_play : ByteArray := prog_12_method_46_code
def yX10_play : MethodName := ⟨RX10, "play", "(IIII)I"⟩
abbrev cX10_isCaught : ByteArray := prog_12_method_47_code
def yX10_isCaught : MethodName := ⟨RX10, "isCaught", "()Z"⟩
abbrev cX10_turn : ByteArray := prog_12_method_48_code
def yX10_turn : MethodName := ⟨RX10, "turn", "(II)I"⟩
abbrev cX10_now : ByteArray := prog_12_method_49_code
def yX10_now : MethodName := ⟨RX10, "now", "(I)I"⟩
abbrev cX10_spreadOf : ByteArray := prog_12_method_50_code
def yX10_spreadOf : MethodName := ⟨RX10, "spreadOf", "(II)I"⟩
abbrev cX10_isSet : ByteArray := prog_12_method_51_code
def yX10_isSet : MethodName := ⟨RX10, "isSet", "(I)Z"⟩
abbrev cX10_spread : ByteArray := prog_12_method_52_code
def yX10_spread : MethodName := ⟨RX10, "spread", "(III)I"⟩
abbrev cX10_findClear : ByteArray := prog_12_method_53_code
def yX10_findClear : MethodName := ⟨RX10, "findClear", "(II)V"⟩
abbrev cX10_canStep : ByteArray := prog_12_method_54_code
def yX10_canStep : MethodName := ⟨RX10, "canStep", "(III)Z"⟩
abbrev cX10_lengthFound : ByteArray := prog_12_method_55_code
def yX10_lengthFound : MethodName := ⟨RX10, "lengthFound", "()I"⟩
abbrev cX10_clear : ByteArray := prog_12_method_56_code
def yX10_clear : MethodName := ⟨RX10, "clear", "(III)I"⟩
abbrev cX10_free : ByteArray := prog_12_method_57_code
def yX10_free : MethodName := ⟨RX10, "free", "(II)I"⟩
abbrev cX10_joinBoth : ByteArray := prog_12_method_58_code
def yX10_joinBoth : MethodName := ⟨RX10, "joinBoth", "()V"⟩
abbrev cX10_costOf : ByteArray := prog_12_method_59_code
def yX10_costOf : MethodName := ⟨RX10, "costOf", "(ZII)I"⟩
abbrev cX10_lesser : ByteArray := prog_12_method_60_code
def yX10_lesser : MethodName := ⟨RX10, "lesser", "(II)I"⟩
abbrev cX10_greater : ByteArray := prog_12_method_61_code
def yX10_greater : MethodName := ⟨RX10, "greater", "(II)I"⟩
abbrev cX10_findRest : ByteArray := prog_12_method_62_code
def yX10_findRest : MethodName := ⟨RX10, "findRest", "(Z)V"⟩
abbrev cX10_flying : ByteArray := prog_12_method_63_code
def yX10_flying : MethodName := ⟨RX10, "flying", "(ZI)I"⟩
abbrev cX10_stepsBoth : ByteArray := prog_12_method_64_code
def yX10_stepsBoth : MethodName := ⟨RX10, "stepsBoth", "(I)I"⟩
abbrev cX10_coveredIn : ByteArray := prog_12_method_65_code
def yX10_coveredIn : MethodName := ⟨RX10, "coveredIn", "(I)I"⟩
abbrev cX10_away : ByteArray := prog_12_method_66_code
def yX10_away : MethodName := ⟨RX10, "away", "(I)I"⟩
abbrev cX10_doesTouch : ByteArray := prog_12_method_67_code
def yX10_doesTouch : MethodName := ⟨RX10, "doesTouch", "(I)Z"⟩
abbrev cX10_least : ByteArray := prog_12_method_68_code
def yX10_least : MethodName := ⟨RX10, "least", "(I)I"⟩
abbrev cX10_findGoes : ByteArray := prog_12_method_69_code
def yX10_findGoes : MethodName := ⟨RX10, "findGoes", "()V"⟩
abbrev cX10_goOneMore : ByteArray := prog_12_method_70_code
def yX10_goOneMore : MethodName := ⟨RX10, "goOneMore", "(I)V"⟩
abbrev cX10_answerOf : ByteArray := prog_12_method_71_code
def yX10_answerOf : MethodName := ⟨RX10, "answerOf", "(III)I"⟩
abbrev cX10_stepsFrom : ByteArray := prog_12_method_72_code
def yX10_stepsFrom : MethodName := ⟨RX10, "stepsFrom", "(I)I"⟩
abbrev cX10_canAnswer : ByteArray := prog_12_method_73_code
def yX10_canAnswer : MethodName := ⟨RX10, "canAnswer", "(II)Z"⟩
abbrev cX10_guard : ByteArray := prog_12_method_74_code
def yX10_guard : MethodName := ⟨RX10, "guard", "()V"⟩
abbrev cX10_safe : ByteArray := prog_12_method_75_code
def yX10_safe : MethodName := ⟨RX10, "safe", "(II)I"⟩
abbrev cX10_guards : ByteArray := prog_12_method_76_code
def yX10_guards : MethodName := ⟨RX10, "guards", "(II)I"⟩
abbrev cX10_answer : ByteArray := prog_12_method_77_code
def yX10_answer : MethodName := ⟨RX10, "answer", "(III)I"⟩
abbrev cX10_count : ByteArray := prog_12_method_78_code
def yX10_count : MethodName := ⟨RX10, "count", "(I)I"⟩
abbrev cJ6_bitCount_0f7a4 : ByteArray := prog_13_method_49_code
def yJ6_bitCount_0f7a4 : MethodName := ⟨RJ6, "bitCount", "(I)I"⟩
abbrev cJ13_bitCount_95d88 : ByteArray := prog_14_method_50_code
def yJ13_bitCount_95d88 : MethodName := ⟨RJ13, "bitCount", "(J)I"⟩
abbrev cJ0_length_8abf5 : ByteArray := prog_16_method_54_code
def yJ0_length_8abf5 : MethodName := ⟨RJ0, "length", "()I"⟩
abbrev cJ0_charAt_5068e : ByteArray := prog_16_method_56_code
def yJ0_charAt_5068e : MethodName := ⟨RJ0, "charAt", "(I)C"⟩
abbrev cJ0_coder_7d493 : ByteArray := prog_16_method_152_code
def yJ0_coder_7d493 : MethodName := ⟨RJ0, "coder", "()B"⟩
abbrev cJ0_isLatin1_aae02 : ByteArray := prog_16_method_154_code
def yJ0_isLatin1_aae02 : MethodName := ⟨RJ0, "isLatin1", "()Z"⟩
abbrev cJ0_checkIndex_df160 : ByteArray := prog_16_method_155_code
def yJ0_checkIndex_df160 : MethodName := ⟨RJ0, "checkIndex", "(II)V"⟩
abbrev cJ1_charAt_3b067 : ByteArray := prog_17_method_2_code
def yJ1_charAt_3b067 : MethodName := ⟨RJ1, "charAt", "([BI)C"⟩
abbrev cJ7_fill_d0a16 : ByteArray := prog_20_method_101_code
def yJ7_fill_d0a16 : MethodName := ⟨RJ7, "fill", "([JJ)V"⟩
abbrev cJ7_fill_53178 : ByteArray := prog_20_method_103_code
def yJ7_fill_53178 : MethodName := ⟨RJ7, "fill", "([II)V"⟩
abbrev cJ3_checkIndex_8e157 : ByteArray := prog_21_method_11_code
def yJ3_checkIndex_8e157 : MethodName := ⟨RJ3, "checkIndex", "(IILjava/util/function/BiFunction;)I"⟩
abbrev vwCl : List vw_C := [(RX0, TX0, 8), (RX1, TX1, 1), (RX2, TX2, 5), (RX3, TX3, 6), (RX4, TX4, 5), (RX5, TX5, 6), (RX6, TX6, 4), (RX7, TX7, 9), (RX8, TX8, 10), (RX9, TX9, 10), (RX10, TX10, 41)]
def tT : List Cond := lw_tbl.filter goodWord
theorem tM {w : Cond} (i : Nat) (h : lw_tbl[i]? = some w) (hg : goodWord w = true) : w ∈ tT := List.mem_filter.mpr ⟨List.mem_of_getElem? h, hg⟩
theorem tG {ws : List Cond} (h : ∀ w ∈ ws, w ∈ tT) : GoodIn tT ws := fun w hw => ⟨h w hw, good_of_word (List.mem_filter.mp (h w hw)).2⟩
theorem inX0 : ∀ w ∈ u_ws RX0 TX0 8, w ∈ tT := by decide +kernel
theorem inX1 : ∀ w ∈ u_ws RX1 TX1 1, w ∈ tT := by decide +kernel
theorem inX2 : ∀ w ∈ u_ws RX2 TX2 5, w ∈ tT := by decide +kernel
theorem inX3 : ∀ w ∈ u_ws RX3 TX3 6, w ∈ tT := by decide +kernel
theorem inX4 : ∀ w ∈ u_ws RX4 TX4 5, w ∈ tT := by decide +kernel
theorem inX5 : ∀ w ∈ u_ws RX5 TX5 6, w ∈ tT := by decide +kernel
theorem inX6 : ∀ w ∈ u_ws RX6 TX6 4, w ∈ tT := by decide +kernel
theorem inX7 : ∀ w ∈ u_ws RX7 TX7 9, w ∈ tT := by decide +kernel
theorem inX8 : ∀ w ∈ u_ws RX8 TX8 10, w ∈ tT := by decide +kernel
theorem inX9 : ∀ w ∈ u_ws RX9 TX9 10, w ∈ tT := by decide +kernel
theorem inX10 : ∀ w ∈ u_ws RX10 TX10 41, w ∈ tT := by decide +kernel
end
section
def KD : List Nat := [9, 3, 11, 11, 11, 11, 7, 11, 11, 11, 11, 16, 14, 5, 8, 11, 11, 11, 4, 11, 11, 4, 11, 11, 1, 15, 2, 12, 12, 2, 12, 12, 6, 11, 6, 11, 6, 11, 99, 99, 0, 11, 11, 11, 11, 0, 11, 11, 11, 11, 0, 11, 11, 11, 11, 0, 11, 11, 11, 11, 0, 11, 11, 11, 11, 0, 11, 11, 11, 11, 0, 11, 11, 11, 11, 0, 11, 11, 11, 11, 0, 11, 11, 11, 11, 99, 99, 99, 99, 99, 99, 99, 99, 99, 99, 99, 99, 99, 99, 99, 10, 11, 11, 11, 13, 11, 11, 11, 11, 11, 11, 11, 13, 11, 11, 11, 11, 11, 11, 13, 13, 13, 13]
def LN : List Nat := [0, 0, 8, 8, 256, 256, 0, 160, 16, 16, 16, 3, 9, 0, 0, 2816, 2816, 512, 0, 256, 8, 0, 256, 8, 0, 2, 0, 1024, 4, 0, 1024, 4, 0, 8, 0, 64, 0, 512, 0, 0, 0, 64, 8, 8, 8, 0, 64, 8, 8, 8, 0, 64, 8, 8, 8, 0, 512, 64, 64, 64, 0, 512, 64, 64, 64, 0, 512, 64, 64, 64, 0, 4096, 512, 512, 512, 0, 4096, 512, 512, 512, 0, 4096, 512, 512, 512, 0, 0, 0, 0, 0, 0, 0, 0, 0, 0, 0, 0, 0, 0, 0, 0, 8, 160, 48, 9, 36864, 4096, 512, 3, 3, 16384, 16384, 3, 3, 3, 8, 256, 2048, 8, 65536, 512, 256, 256]
def RFs : List (List Nat) := [[1, 6, 11, 12, 13, 14, 18, 21, 24, 25], [0, 0, 2, 3, 4, 5], [], [], [], [], [7, 0, 0, 0, 0, 0, 8, 9, 10], [], [], [], [], [32, 34, 36], [40, 45, 50, 55, 60, 65, 70, 75, 80], [], [1, 15, 16, 17], [], [], [], [1, 0, 19, 20], [], [], [1, 0, 22, 23], [], [], [1], [26, 29], [1, 0, 27, 28], [], [], [1, 0, 30, 31], [], [], [1, 0, 0, 33], [], [1, 0, 0, 35], [], [1, 0, 0, 37], [], [], [], [1, 32, 0, 41, 42, 43, 44], [], [], [], [], [1, 32, 0, 46, 47, 48, 49], [], [], [], [], [1, 32, 0, 51, 52, 53, 54], [], [], [], [], [1, 34, 0, 56, 57, 58, 59], [], [], [], [], [1, 34, 0, 61, 62, 63, 64], [], [], [], [], [1, 34, 0, 66, 67, 68, 69], [], [], [], [], [1, 36, 0, 71, 72, 73, 74], [], [], [], [], [1, 36, 0, 76, 77, 78, 79], [], [], [], [], [1, 36, 0, 81, 82, 83, 84], [], [], [], [], [], [], [], [], [], [], [], [], [], [], [], [], [], [], [], [0, 101, 0, 102, 0, 0, 0, 0, 0, 0, 0, 0, 103, 104, 105, 106, 107, 108, 109, 0, 0, 0, 0, 0, 0, 110, 111, 0, 112, 113, 114, 115, 116, 117, 118, 0, 0, 119, 120, 121, 122], [], [], [], [], [], [], [], [], [], [], [], [], [], [], [], [], [], [], [], [], [], []]
def FTs : List (List Nat) := [[2, 2, 0, 2, 2, 2, 2, 0], [2], [2, 0, 2, 2, 0], [0, 0, 2, 2, 2, 2], [2, 0, 2, 2, 0], [0, 0, 0, 0, 0, 0], [2, 0, 0, 2], [2, 0, 0, 0, 0, 0, 2, 2, 2], [2, 2, 2, 2, 3, 0, 0, 0, 0, 0], [2, 2, 2, 2, 2, 2, 2, 2, 2, 2], [0, 2, 0, 2, 0, 0, 1, 0, 0, 0, 0, 0, 2, 2, 2, 2, 2, 2, 2, 0, 0, 0, 0, 0, 0, 2, 2, 0, 2, 2, 2, 2, 2, 2, 2, 0, 0, 2, 2, 2, 2]]
def kd (a : Nat) : Nat := KD.getD a 99
def ln (a : Nat) : Nat := LN.getD a 0
def rf (a k : Nat) : Nat := (RFs.getD a []).getD k 0
def ft (a k : Nat) : Option Nat := (FTs.getD (kd a) [])[k]?
/-- the pure state: what int (boolean) and long slots hold, by cell and slot -/
abbrev St : Type := (Nat → Nat → Int32) × (Nat → Nat → Int64)
def setI (σ : St) (a k : Nat) (v : Int32) : St := (va_up σ.1 a (upd (σ.1 a) k v), σ.2)
def setL (σ : St) (a k : Nat) (v : Int64) : St := (σ.1, va_up σ.2 a (vp_updL (σ.2 a) k v))
def setR (σ : St) (a : Nat) (f : Nat → Int32) : St := (va_up σ.1 a f, σ.2)
/-- the machine's fixed part; the world's fixed part: classes' numbers, addresses, cells; a method: name, bytes, locals, type of its answer, room -/
abbrev Gm : Type := Program × Launch × Env × State × MethodId × Array Value × List Frame × Method × Code
abbrev Ev : Type := va_G × (Nat → ClassId) × (Nat → Nat) × List Nat × (Nat → Nat → Bool)
/-- what a walk may write, the cells and slots made so far -/
abbrev Gx : Type := (Nat → Prop) × Nat × Nat
abbrev Md : Type := MethodName × ByteArray × Nat × Option FieldType × Room
abbrev rV (E : Ev) (a : Nat) : Value := .ref (E.2.2.1 a)
def fv (E : Ev) (σ : St) (a t k : Nat) : Value := if t = 0 then .int (σ.1 a k) else if t = 1 then .long (σ.2 a k) else if E.2.2.2.2 a k = false then .null else if t = 2 then rV E (rf a k) else rV E (32 + 2 * (σ.1 a k).toNatClampNeg)
def flds (E : Ev) (σ : St) (a : Nat) : List Value := (FTs.getD (kd a) []).mapIdx (fun k t => fv E σ a t k)
def cont (E : Ev) (σ : St) (a : Nat) : va_E := if kd a < 11 then .inr (kd a, flds E σ a) else if kd a = 12 then .inl (E.2.1 12, ln a, .inr (.inl (σ.2 a))) else if kd a < 14 then .inl (E.2.1 (kd a), ln a, .inl (σ.1 a)) else .inl (E.2.1 (kd a), ln a, .inr (.inr (.inr (.inr (fun j => if E.2.2.2.2 a j = true then some (E.2.2.1 (rf a j)) else none)))))
def WS (E : Ev) (σ : St) : va_W := E.2.2.2.1.map (fun a => (E.2.2.1 a, cont E σ a))
def tys (E : Ev) : List (ClassId × FieldType) := [(E.2.1 11, .int), (E.2.1 12, .long), (E.2.1 13, .boolean), (E.2.1 14, .object "RunnerNet$Chase"), (E.2.1 15, .object "RunnerNet$Guards"), (E.2.1 16, .object "RunnerNet$Settings")]
def Eok (E : Ev) : Prop := E.2.2.2.1.Nodup ∧ ∀ a b, a ∈ E.2.2.2.1 → b ∈ E.2.2.2.1 → E.2.2.1 a = E.2.2.1 b → a = b
def AL (E : Ev) : Nat → Prop := fun q => ∃ a, a ∈ E.2.2.2.1 ∧ q = E.2.2.1 a
/-- all cells of the plan are there -/
def Full (E : Ev) : Prop := (∀ a, kd a < 99 → a ∈ E.2.2.2.1) ∧ ∀ a k, E.2.2.2.2 a k = true
theorem nd_inj : ∀ (l : List Nat), l.Nodup → ∀ (i j a : Nat), l[i]? = some a → l[j]? = some a → i = j
  | [], _, i, j, a, h, _ => by simp at h
  | b :: l, hn, i, j, a, h1, h2 => by
    have hn := List.nodup_cons.mp hn
    cases i with
    | zero =>
      cases j with
      | zero => rfl
      | succ j =>
        rw [List.getElem?_cons_zero] at h1
        rw [List.getElem?_cons_succ] at h2
        cases h1
        exact absurd (List.mem_of_getElem? h2) hn.1
    | succ i =>
      rw [List.getElem?_cons_succ] at h1
      cases j with
      | zero =>
        rw [List.getElem?_cons_zero] at h2
        cases h2
        exact absurd (List.mem_of_getElem? h1) hn.1
      | succ j =>
        rw [List.getElem?_cons_succ] at h2
        rw [nd_inj l hn.2 i j a h1 h2]
theorem ws_get {E : Ev} (σ : St) {a : Nat} (h : a ∈ E.2.2.2.1) : ∃ k : Nat, E.2.2.2.1[k]? = some a ∧ (WS E σ)[k]? = some (E.2.2.1 a, cont E σ a) := by
  obtain ⟨k, hk⟩ := List.getElem?_of_mem h
  exact ⟨k, hk, by simp [WS, hk]⟩
theorem ws_set {E : Ev} {σ σ' : St} {a k : Nat} (hE : Eok E) (hk : E.2.2.2.1[k]? = some a) (hc : ∀ b, b ≠ a → cont E σ' b = cont E σ b) : (WS E σ).set k (E.2.2.1 a, cont E σ' a) = WS E σ' := by
  apply List.ext_getElem?
  intro j
  by_cases hj : j = k
  · subst hj
    have hl : j < E.2.2.2.1.length := (List.getElem?_eq_some_iff.mp hk).1
    rw [List.getElem?_set_self (by simpa [WS] using hl)]
    simp [WS, hk]
  · rw [List.getElem?_set_ne (Ne.symm hj)]
    simp only [WS, List.getElem?_map]
    cases hb : E.2.2.2.1[j]? with
    | none => rfl
    | some b =>
      have hba : b ≠ a := by
        intro e
        subst e
        exact hj (nd_inj _ hE.1 _ _ _ hb hk)
      simp [hc b hba]
theorem ws_D {E : Ev} {A : Nat → Prop} (hE : Eok E) (hA : ∀ q, AL E q → A q) (σ : St) : va_D A (WS E σ) := by
  have key : ∀ (k : Nat) (q : Nat × va_E), (WS E σ)[k]? = some q → ∃ a, E.2.2.2.1[k]? = some a ∧ q = (E.2.2.1 a, cont E σ a) := by
    intro k q hk
    simp only [WS, List.getElem?_map] at hk
    cases hb : E.2.2.2.1[k]? with
    | none => rw [hb] at hk; cases hk
    | some b => rw [hb] at hk; cases hk; exact ⟨b, rfl, rfl⟩
  refine ⟨fun i j p q hi hj hpq => ?_, fun k q hk => ?_⟩
  · obtain ⟨a, ha, rfl⟩ := key i p hi
    obtain ⟨b, hb, rfl⟩ := key j q hj
    have hab : a = b := hE.2 a b (List.mem_of_getElem? ha) (List.mem_of_getElem? hb) hpq
    subst hab
    exact nd_inj _ hE.1 _ _ _ ha hb
  · obtain ⟨a, ha, rfl⟩ := key k q hk
    exact hA _ ⟨a, List.mem_of_getElem? ha, rfl⟩
theorem cont_o (E : Ev) (σ : St) {a ci : Nat} (h : kd a = ci) (hc : ci < 11) : cont E σ a = .inr (ci, flds E σ a) := by simp [cont, h, hc]
theorem cont_i (E : Ev) (σ : St) {a : Nat} (h : kd a = 11) : cont E σ a = .inl (E.2.1 11, ln a, .inl (σ.1 a)) := by simp [cont, h]
theorem cont_l (E : Ev) (σ : St) {a : Nat} (h : kd a = 12) : cont E σ a = .inl (E.2.1 12, ln a, .inr (.inl (σ.2 a))) := by simp [cont, h]
theorem cont_z (E : Ev) (σ : St) {a : Nat} (h : kd a = 13) : cont E σ a = .inl (E.2.1 13, ln a, .inl (σ.1 a)) := by simp [cont, h]
theorem cont_q (E : Ev) (σ : St) {a c : Nat} (h : kd a = c) (hc : 14 ≤ c) : cont E σ a = .inl (E.2.1 c, ln a, .inr (.inr (.inr (.inr (fun j => if E.2.2.2.2 a j = true then some (E.2.2.1 (rf a j)) else none))))) := by
  have h1 : ¬ c < 11 := by omega
  have h2 : ¬ c = 12 := by omega
  have h3 : ¬ c < 14 := by omega
  simp [cont, h, h1, h2, h3]
theorem flds_get (E : Ev) (σ : St) {a k t : Nat} (h : ft a k = some t) : (flds E σ a)[k]? = some (fv E σ a t k) := by
  unfold ft at h
  rw [flds, List.getElem?_mapIdx, h]
  rfl
theorem flds_len (E : Ev) (σ : St) {a k t : Nat} (h : ft a k = some t) : k < (flds E σ a).length := (List.getElem?_eq_some_iff.mp (flds_get E σ h)).1
theorem up_s {α : Type} (f : Nat → α) (a : Nat) (v : α) : va_up f a v a = v := by simp [va_up]
theorem up_n {α : Type} (f : Nat → α) {a b : Nat} (v : α) (h : b ≠ a) : va_up f a v b = f b := by simp [va_up, h]
theorem setI_s (σ : St) (a k : Nat) (v : Int32) : (setI σ a k v).1 a = upd (σ.1 a) k v := up_s _ _ _
theorem setI_n (σ : St) {a b : Nat} (k : Nat) (v : Int32) (h : b ≠ a) : (setI σ a k v).1 b = σ.1 b := up_n _ _ h
theorem setI_2 (σ : St) (a k : Nat) (v : Int32) : (setI σ a k v).2 = σ.2 := rfl
theorem setL_s (σ : St) (a k : Nat) (v : Int64) : (setL σ a k v).2 a = vp_updL (σ.2 a) k v := up_s _ _ _
theorem setL_n (σ : St) {a b : Nat} (k : Nat) (v : Int64) (h : b ≠ a) : (setL σ a k v).2 b = σ.2 b := up_n _ _ h
theorem setL_1 (σ : St) (a k : Nat) (v : Int64) : (setL σ a k v).1 = σ.1 := rfl
theorem setR_s (σ : St) (a : Nat) (f : Nat → Int32) : (setR σ a f).1 a = f := up_s _ _ _
theorem setR_n (σ : St) {a b : Nat} (f : Nat → Int32) (h : b ≠ a) : (setR σ a f).1 b = σ.1 b := up_n _ _ h
theorem setR_2 (σ : St) (a : Nat) (f : Nat → Int32) : (setR σ a f).2 = σ.2 := rfl
/-- a cell's contents rest on its own slots alone -/
theorem cont_cg (E : Ev) {σ σ' : St} {b : Nat} (h1 : σ'.1 b = σ.1 b) (h2 : σ'.2 b = σ.2 b) : cont E σ' b = cont E σ b := by simp [cont, flds, fv, h1, h2]
theorem flds_set (E : Ev) {σ σ' : St} {a k t : Nat} {v : Value} (h : ft a k = some t) (hv : fv E σ' a t k = v) (hn : ∀ j, j ≠ k → σ'.1 a j = σ.1 a j ∧ σ'.2 a j = σ.2 a j) : flds E σ' a = (flds E σ a).set k v := by
  apply List.ext_getElem?
  intro j
  by_cases hj : j = k
  · subst hj
    rw [List.getElem?_set_self (flds_len E σ h), flds_get E σ' h, hv]
  · rw [List.getElem?_set_ne (Ne.symm hj)]
    simp only [flds, List.getElem?_mapIdx, fv, (hn j hj).1, (hn j hj).2]
/-- what no method writes: private statics' links between nest mates, the table LACKS, the three texts, one static of String -/
def nestW : List Cond := [.methodLinkNest "RunnerNet" 20 ⟨"RunnerNet$Text", "<init>", "()V"⟩ "RunnerNet", .methodLinkNest "RunnerNet" 45 ⟨"RunnerNet$Play", "<init>", "()V"⟩ "RunnerNet", .methodLinkNest "RunnerNet$Net" 50 yX9_has "RunnerNet", .methodLinkNest "RunnerNet$Chase" 103 yX9_has "RunnerNet", .methodLinkNest "RunnerNet$Settings" 33 yX9_has "RunnerNet", .methodLinkNest "RunnerNet$Unseen" 97 yX9_has "RunnerNet", .methodLinkNest "RunnerNet$Orders" 55 yX9_has "RunnerNet", .methodLinkNest "RunnerNet$Covers" 33 yX9_has "RunnerNet", .methodLinkNest "RunnerNet$Guards" 95 yX9_has "RunnerNet"]
def lackV (j : Nat) : Int64 := [6148914691236517205, 3689348814741910323, 1085102592571150095, 71777214294589695, 281470681808895, 4294967295].getD j 0
def jsByt : List (List Int32) := [[114, 111, 97, 100], [119, 97, 121], [110, 101, 116]]
def jsLen : List Nat := [4, 3, 3]
/-- the three texts stand at 130, 131, 132, their bytes at 140, 141, 142, the table LACKS at 133: no cells of the world -/
def Kt (ad : Nat → Nat) (A : Nat → Prop) (U : State) (H : Heap) : Prop := (∀ w ∈ nestW, va_Nw w U) ∧ (va_Z "RunnerNet$Guards" "LACKS" "[J" (.ref (ad 133)) A U H ∧ va_T .long (ad 133) 6 (fun j => .long (lackV j)) A U H) ∧ (vk_S 3 jsLen jsByt (fun j => ad (130 + j)) (fun j => ad (140 + j)) A U H ∧ vk_R "RunnerNet$Text" 82 "road" (ad 130) U ∧ vk_R "RunnerNet$Text" 88 "way" (ad 131) U ∧ vk_R "RunnerNet$Text" 90 "net" (ad 132) U) ∧ va_Z "java/lang/String" "COMPACT_STRINGS" "Z" (.int 1) A U H ∧ va_Zq "jdk/internal/util/Preconditions" "SIOOBE_FORMATTER" "Ljava/util/function/BiFunction;" A U H
def Ks (E : Ev) (A : Nat → Prop) (U : State) (H : Heap) : Prop := Kt E.2.2.1 A U H
theorem nestW_w {s U : State} (hW : s.WarmedH U.vm) : ∀ w ∈ nestW, va_Nw w s → va_Nw w U := by
  intro w hw h
  simp only [nestW, List.mem_cons, List.not_mem_nil, or_false] at hw
  rcases hw with rfl | rfl | rfl | rfl | rfl | rfl | rfl | rfl | rfl <;> exact va_Nw.warmM hW h
theorem Kt.warm {ad : Nat → Nat} {A : Nat → Prop} {s U : State} {H : Heap} (hW : s.WarmedH U.vm) (h : Kt ad A s H) : Kt ad A U H := by
  obtain ⟨h1, ⟨h2, h3⟩, ⟨h4, h5, h6, h7⟩, h8, h9⟩ := h
  exact ⟨fun w hw => nestW_w hW w hw (h1 w hw), ⟨va_Z.moved hW.alike h2, va_T.moved hW.alike h3⟩, ⟨vk_S.moved hW.alike h4, vk_R.warm hW h5, vk_R.warm hW h6, vk_R.warm hW h7⟩, va_Z.moved hW.alike h8, va_Zq.moved hW.alike h9⟩
theorem Kt.kept {ad : Nat → Nat} {A : Nat → Prop} {U : State} {H H1 : Heap} (hq : ∀ a : Nat, a < H.size → ¬ A a → H1[a]? = H[a]?) (h : Kt ad A U H) : Kt ad A U H1 := by
  obtain ⟨h1, ⟨h2, h3⟩, ⟨h4, h5⟩, h8, h9⟩ := h
  exact ⟨h1, ⟨h2.kept hq, h3.kept hq⟩, ⟨h4.kept hq, h5⟩, h8.kept hq, h9.kept hq⟩
theorem Kt.narrow {ad : Nat → Nat} {A B : Nat → Prop} {U : State} {H : Heap} (hAB : ∀ q, B q → A q) (h : Kt ad A U H) : Kt ad B U H := by
  obtain ⟨h1, ⟨h2, h3⟩, ⟨h4, h5⟩, h8, h9⟩ := h
  exact ⟨h1, ⟨h2.narrow hAB, h3.narrow hAB⟩, ⟨h4.narrow hAB, h5⟩, h8.narrow hAB, h9.narrow hAB⟩
theorem Kt.cg {ad ad' : Nat → Nat} {A : Nat → Prop} {U : State} {H : Heap} (he : ∀ j, ad' (130 + j) = ad (130 + j)) (h : Kt ad A U H) : Kt ad' A U H := by
  have e1 : (fun j => ad' (130 + j)) = (fun j => ad (130 + j)) := funext he
  have e2 : (fun j => ad' (140 + j)) = (fun j => ad (140 + j)) := funext (fun j => by have := he (10 + j); rw [show 130 + (10 + j) = 140 + j by omega] at this; exact this)
  have e3 : ad' 133 = ad 133 := he 3
  have e4 : ad' 130 = ad 130 := he 0
  have e5 : ad' 131 = ad 131 := he 1
  have e6 : ad' 132 = ad 132 := he 2
  unfold Kt
  rw [e1, e2, e3, e4, e5, e6]
  exact h
theorem Kt.same {ad : Nat → Nat} {A : Nat → Prop} {u U : State} {H : Heap} (hv : u.vm = U.vm) (h : Kt ad A u H) : Kt ad A U H := by
  obtain ⟨h1, ⟨h2, h3⟩, ⟨h4, h5, h6, h7⟩, h8, h9⟩ := h
  have ha : u.vm.Alike U.vm := hv ▸ Vm.Alike.refl u.vm
  have hn : ∀ w ∈ nestW, w.onTables = true := by
    intro w hw
    simp only [nestW, List.mem_cons, List.not_mem_nil, or_false] at hw
    rcases hw with rfl | rfl | rfl | rfl | rfl | rfl | rfl | rfl | rfl <;> rfl
  exact ⟨fun w hw => va_Nw.same (hn w hw) hv (h1 w hw), ⟨va_Z.moved ha h2, va_T.moved ha h3⟩, ⟨vk_S.moved ha h4, vk_R.same hv.symm h5, vk_R.same hv.symm h6, vk_R.same hv.symm h7⟩, va_Z.moved ha h8, va_Zq.moved ha h9⟩
/-- the facts that stand through a method -/
def Cx (Γ : Gm) (Ξ : Gx) (E : Ev) (μ : Md) : Prop :=
  Γ.1.tables.exec = Jvm.exec ∧ Γ.2.2.2.2.2.2.2.2.code = μ.2.1 ∧ Γ.2.2.2.2.2.2.2.2.maxLocals = μ.2.2.1 ∧ Γ.2.2.2.2.2.2.2.1.sig.returnType = μ.2.2.2.1 ∧ Γ.2.2.2.1.vm.findClass μ.1.cls = some Γ.2.2.2.2.1.cls ∧ (∀ w ∈ tT, w.before Γ.2.2.2.2.2.1 Γ.2.2.2.1 = true) ∧ Γ.2.2.2.2.2.2.2.1.locks = false ∧ va_K E.1 vwCl (tys E) Γ.2.2.2.1 ∧ (Eok E ∧ (∀ q, AL E q → Ξ.1 q) ∧ Ξ.2.1 ≤ μ.2.2.2.2.cells ∧ Ξ.2.2 ≤ μ.2.2.2.2.slots) ∧ Ks E Ξ.1 Γ.2.2.2.1 Γ.2.2.2.1.heap
def Qm (E : Ev) (rv : Option Value) (σ : St) : Array Value → State → Outcome → State → Prop := fun _ st oc t => (oc = .returned rv ∧ va_P E.1 vwCl (WS E σ) t.heap) ∧ va_F (AL E) st t
/-- the machine at a place follows the pure text; Q r is what is due behind its answer r -/
def Sim {ρ : Type} (Q : ρ → State → Prop) (Γ : Gm) (Ξ : Gx) (E : Ev) (μ : Md) (σ : St) (pc : Nat) (lv : List (Nat × Value)) (st : List Value) (o : Option ρ) : Prop :=
  Cx Γ Ξ E μ → ∀ r : ρ, o = some r → ∀ (ls : Array Slot) (H : Heap) (locs : List Loc), lv_has ls μ.2.2.1 lv → va_P E.1 vwCl (WS E σ) H → va_S Ξ.1 Γ.2.2.2.1.heap H locs →
    W Γ.1 Γ.2.1 Γ.2.2.1 μ.2.2.2.2 Γ.2.2.2.1 Γ.2.2.2.2.1 Γ.2.2.2.2.2.1 Γ.2.2.2.2.2.2.1 Γ.2.2.2.2.2.2.2.1 Γ.2.2.2.2.2.2.2.2 H locs Ξ.2.1 Ξ.2.2 (Q r) (F0 Γ.2.2.2.2.1 pc ls st)
/-- an ordinary method's end: its answer r is told by en, the state then by fs -/
def qM {ρ : Type} (en : ρ → Option Value) (fs : ρ → St) (Γ : Gm) (E : Ev) : ρ → State → Prop := fun r => MQ Γ.2.2.2.2.2.2.1 (Qm E (en r) (fs r)) Γ.2.2.2.2.2.1 Γ.2.2.2.1 0 0 (AL E)
abbrev x0 (E : Ev) : Gx := (AL E, 0, 0)
def PcE (E : Ev) (As : List Value) (σ : St) : Array Value → State → Prop := va_Pc As (fun U => va_P E.1 vwCl (WS E σ) U.heap ∧ va_K E.1 vwCl (tys E) U ∧ Ks E (AL E) U U.heap)
/-- a method's contract: what it answers and what the world is then, if the pure text says so -/
def Ctr {ρ : Type} (l : Launch) (en : ρ → Option Value) (fs : ρ → St) (E : Ev) (μ : Md) (As : List Value) (σ : St) (o : Option ρ) : Prop :=
  Eok E → ∀ r : ρ, o = some r → Met l μ.1 (.code μ.1 μ.2.1 μ.2.2.1 μ.2.2.2.1 :: tT) μ.2.2.2.2 (PcE E As σ) (Qm E (en r) (fs r)) 0 0 (AL E)
def enI (x : Int32) : Option Value := some (.int x)
def enL (x : Int64) : Option Value := some (.long x)
def enV (_ : Unit) : Option Value := none
/-- a cell of a row of objects: Settings 32, 34, ..; Chases 40, 45, .. -/
def enS (E : Ev) (k : Nat) : Option Value := some (rV E (32 + 2 * k))
def enC (E : Ev) (i : Nat) : Option Value := some (rV E (40 + 5 * i))
def en2 {α : Type} (en : α → Option Value) : α × St → Option Value := fun q => en q.1
theorem ctr_of {ρ : Type} {l : Launch} {en : ρ → Option Value} {fs : ρ → St} {E : Ev} {μ : Md} {As : List Value} {σ : St} {o : Option ρ} (hy : plainName μ.1.cls = true) (hn : (lg_sl As).length ≤ μ.2.2.1)
    (h : ∀ Γ : Gm, Sim (qM en fs Γ E) Γ (x0 E) E μ σ 0 (lv_args 0 As) [] o) : Ctr l en fs E μ As σ o := by
  intro hE r ho
  refine Met.ofW (cc := μ.2.1) (maxL := μ.2.2.1) (ret := μ.2.2.2.1) hy rfl ?_
  intro p e s m args below meth c s₁ B hml hv
  obtain ⟨rfl, hP, hK, hKs⟩ := hv
  have hts : ∀ w ∈ tT, w.before As.toArray s = true := fun w hw => atoms_spec (ws := .code μ.1 μ.2.1 μ.2.2.1 μ.2.2.2.1 :: tT) B.pre w (List.mem_cons_of_mem _ hw)
  have hl := lv_entry As hn
  rw [lg_entry_eq]
  exact h (p, l, e, s, m, As.toArray, below, meth, c) ⟨B.exec, B.bytes, hml, B.returns, findClass_of_methodNamed B.named, hts, B.notSynchronized, hK, ⟨hE, fun _ h => h, Nat.zero_le _, Nat.zero_le _⟩, hKs⟩ r ho _ s.heap [] hl hP va_S.rf
end
section
/-- the words of the pure texts -/
def bd {α R : Type} (e : α) (K : α → R) : R := K e
def ck {R : Type} (i : Int32) (n : Nat) (k : Option R) : Option R := if i < 0 then none else if n ≤ i.toNatClampNeg then none else k
def ckN {R : Type} (i n : Nat) (k : Option R) : Option R := if i < n then k else none
def ckZ {R : Type} (x : Int32) (k : Option R) : Option R := if x = 0 then k else if x = 1 then k else none
def cal {β R : Type} (o : Option (β × St)) (K : β → St → Option R) : Option R := o.bind (fun q => K q.1 q.2)
def calP {β R : Type} (o : Option β) (K : β → Option R) : Option R := o.bind K
theorem ck_in {R : Type} {i : Int32} {n : Nat} {k : Option R} {r : R} (h : ck i n k = some r) : vp_in i n ∧ k = some r := by
  unfold ck at h
  by_cases h1 : i < 0
  · rw [if_pos h1] at h; cases h
  · rw [if_neg h1] at h
    by_cases h2 : n ≤ i.toNatClampNeg
    · rw [if_pos h2] at h; cases h
    · rw [if_neg h2] at h
      exact ⟨fun q => q.elim h1 h2, h⟩
theorem ckN_in {R : Type} {i n : Nat} {k : Option R} {r : R} (h : ckN i n k = some r) : i < n ∧ k = some r := by
  unfold ckN at h
  by_cases h1 : i < n
  · rw [if_pos h1] at h; exact ⟨h1, h⟩
  · rw [if_neg h1] at h; cases h
theorem ckZ_in {R : Type} {x : Int32} {k : Option R} {r : R} (h : ckZ x k = some r) : (x = 0 ∨ x = 1) ∧ k = some r := by
  unfold ckZ at h
  by_cases h1 : x = 0
  · rw [if_pos h1] at h; exact ⟨Or.inl h1, h⟩
  · rw [if_neg h1] at h
    by_cases h2 : x = 1
    · rw [if_pos h2] at h; exact ⟨Or.inr h2, h⟩
    · rw [if_neg h2] at h; cases h
theorem calP_in {β R : Type} {o : Option β} {K : β → Option R} {r : R} (h : calP o K = some r) : ∃ a, o = some a ∧ K a = some r := by
  unfold calP at h
  cases o with
  | none => cases h
  | some q => exact ⟨q, rfl, h⟩
theorem cal_in {β R : Type} {o : Option (β × St)} {K : β → St → Option R} {r : R} (h : cal o K = some r) : ∃ a σ, o = some (a, σ) ∧ K a σ = some r := by
  unfold cal at h
  cases o with
  | none => cases h
  | some q => exact ⟨q.1, q.2, rfl, h⟩
def lo1 {A0 R : Type} : Nat → ((A0 → Option R) → A0 → Option R) → A0 → Option R
  | 0, _, _ => none
  | n + 1, F, a0 => F (lo1 n F) a0
def lo2 {A0 A1 R : Type} : Nat → ((A0 → A1 → Option R) → A0 → A1 → Option R) → A0 → A1 → Option R
  | 0, _, _, _ => none
  | n + 1, F, a0, a1 => F (lo2 n F) a0 a1
def lo3 {A0 A1 A2 R : Type} : Nat → ((A0 → A1 → A2 → Option R) → A0 → A1 → A2 → Option R) → A0 → A1 → A2 → Option R
  | 0, _, _, _, _ => none
  | n + 1, F, a0, a1, a2 => F (lo3 n F) a0 a1 a2
def lo4 {A0 A1 A2 A3 R : Type} : Nat → ((A0 → A1 → A2 → A3 → Option R) → A0 → A1 → A2 → A3 → Option R) → A0 → A1 → A2 → A3 → Option R
  | 0, _, _, _, _, _ => none
  | n + 1, F, a0, a1, a2, a3 => F (lo4 n F) a0 a1 a2 a3
def lo5 {A0 A1 A2 A3 A4 R : Type} : Nat → ((A0 → A1 → A2 → A3 → A4 → Option R) → A0 → A1 → A2 → A3 → A4 → Option R) → A0 → A1 → A2 → A3 → A4 → Option R
  | 0, _, _, _, _, _, _ => none
  | n + 1, F, a0, a1, a2, a3, a4 => F (lo5 n F) a0 a1 a2 a3 a4
def lo6 {A0 A1 A2 A3 A4 A5 R : Type} : Nat → ((A0 → A1 → A2 → A3 → A4 → A5 → Option R) → A0 → A1 → A2 → A3 → A4 → A5 → Option R) → A0 → A1 → A2 → A3 → A4 → A5 → Option R
  | 0, _, _, _, _, _, _, _ => none
  | n + 1, F, a0, a1, a2, a3, a4, a5 => F (lo6 n F) a0 a1 a2 a3 a4 a5
def lo7 {A0 A1 A2 A3 A4 A5 A6 R : Type} : Nat → ((A0 → A1 → A2 → A3 → A4 → A5 → A6 → Option R) → A0 → A1 → A2 → A3 → A4 → A5 → A6 → Option R) → A0 → A1 → A2 → A3 → A4 → A5 → A6 → Option R
  | 0, _, _, _, _, _, _, _, _ => none
  | n + 1, F, a0, a1, a2, a3, a4, a5, a6 => F (lo7 n F) a0 a1 a2 a3 a4 a5 a6
def lo8 {A0 A1 A2 A3 A4 A5 A6 A7 R : Type} : Nat → ((A0 → A1 → A2 → A3 → A4 → A5 → A6 → A7 → Option R) → A0 → A1 → A2 → A3 → A4 → A5 → A6 → A7 → Option R) → A0 → A1 → A2 → A3 → A4 → A5 → A6 → A7 → Option R
  | 0, _, _, _, _, _, _, _, _, _ => none
  | n + 1, F, a0, a1, a2, a3, a4, a5, a6, a7 => F (lo8 n F) a0 a1 a2 a3 a4 a5 a6 a7
def jn0 {R : Type} (B : R → R) (K : R) : R := B K
def jn1 {A0 R : Type} (B : (A0 → R) → R) (K : A0 → R) : R := B K
def jn2 {A0 A1 R : Type} (B : (A0 → A1 → R) → R) (K : A0 → A1 → R) : R := B K
def jn3 {A0 A1 A2 R : Type} (B : (A0 → A1 → A2 → R) → R) (K : A0 → A1 → A2 → R) : R := B K
def jn4 {A0 A1 A2 A3 R : Type} (B : (A0 → A1 → A2 → A3 → R) → R) (K : A0 → A1 → A2 → A3 → R) : R := B K
def jn5 {A0 A1 A2 A3 A4 R : Type} (B : (A0 → A1 → A2 → A3 → A4 → R) → R) (K : A0 → A1 → A2 → A3 → A4 → R) : R := B K
section ROWS
variable {ρ : Type} {Q : ρ → State → Prop} {Γ : Gm} {Ξ : Gx} {E : Ev} {μ : Md} {σ : St} {pc : Nat} {lv : List (Nat × Value)} {st : List Value} {o oT oF : Option ρ}
theorem s_iconst {n : Int} {v : Int32} (hd : decode μ.2.1 pc = .ok (.iconst n, 1)) (hv : Int32.ofInt n = v) (k : Sim Q Γ Ξ E μ σ (pc + 1) lv (.int v :: st) o) : Sim Q Γ Ξ E μ σ pc lv (st) o := by
  intro C r ho ls H locs hl hP hS
  exact lv_iconst C.1 C.2.1 hd hv (k C r ho ls H locs hl hP hS)
theorem s_bipush {n : Int} {v : Int32} (hd : decode μ.2.1 pc = .ok (.bipush n, 2)) (hv : (Int8.ofInt n).toInt32 = v) (k : Sim Q Γ Ξ E μ σ (pc + 2) lv (.int v :: st) o) : Sim Q Γ Ξ E μ σ pc lv (st) o := by
  intro C r ho ls H locs hl hP hS
  exact lv_bipush C.1 C.2.1 hd hv (k C r ho ls H locs hl hP hS)
theorem s_sipush {n : Int} {v : Int32} (hd : decode μ.2.1 pc = .ok (.sipush n, 3)) (hv : (Int16.ofInt n).toInt32 = v) (k : Sim Q Γ Ξ E μ σ (pc + 3) lv (.int v :: st) o) : Sim Q Γ Ξ E μ σ pc lv (st) o := by
  intro C r ho ls H locs hl hP hS
  exact lv_sipush C.1 C.2.1 hd hv (k C r ho ls H locs hl hP hS)
theorem s_lconst {n : Fin 2} {v : Int64} (hd : decode μ.2.1 pc = .ok (.lconst n, 1)) (hv : Int64.ofNat (n : Nat) = v) (k : Sim Q Γ Ξ E μ σ (pc + 1) lv (.long v :: st) o) : Sim Q Γ Ξ E μ σ pc lv (st) o := by
  intro C r ho ls H locs hl hP hS
  exact lv_lconst C.1 C.2.1 hd hv (k C r ho ls H locs hl hP hS)
theorem s_iload_n {k : Fin 4} {i : Nat} {x : Int32} (hd : decode μ.2.1 pc = .ok (.iload_n k, 1)) (j : Nat) (hi : (k : Nat) = i) (hj : lv[j]? = some (i, .int x)) (k : Sim Q Γ Ξ E μ σ (pc + 1) lv (.int x :: st) o) : Sim Q Γ Ξ E μ σ pc lv st o := by
  intro C r ho ls H locs hl hP hS
  exact lv_iload_n C.1 C.2.1 hd hi (lv_at hl j hj) (k C r ho ls H locs hl hP hS)
theorem s_iload {i : Nat} {x : Int32} (hd : decode μ.2.1 pc = .ok (.iload i, 2)) (j : Nat) (hj : lv[j]? = some (i, .int x)) (k : Sim Q Γ Ξ E μ σ (pc + 2) lv (.int x :: st) o) : Sim Q Γ Ξ E μ σ pc lv st o := by
  intro C r ho ls H locs hl hP hS
  exact lv_iload C.1 C.2.1 hd (lv_at hl j hj) (k C r ho ls H locs hl hP hS)
theorem s_lload_n {k : Fin 4} {i : Nat} {x : Int64} (hd : decode μ.2.1 pc = .ok (.lload_n k, 1)) (j : Nat) (hi : (k : Nat) = i) (hj : lv[j]? = some (i, .long x)) (k : Sim Q Γ Ξ E μ σ (pc + 1) lv (.long x :: st) o) : Sim Q Γ Ξ E μ σ pc lv st o := by
  intro C r ho ls H locs hl hP hS
  exact lv_lload_n C.1 C.2.1 hd hi (lv_at hl j hj) (k C r ho ls H locs hl hP hS)
theorem s_lload {i : Nat} {x : Int64} (hd : decode μ.2.1 pc = .ok (.lload i, 2)) (j : Nat) (hj : lv[j]? = some (i, .long x)) (k : Sim Q Γ Ξ E μ σ (pc + 2) lv (.long x :: st) o) : Sim Q Γ Ξ E μ σ pc lv st o := by
  intro C r ho ls H locs hl hP hS
  exact lv_lload C.1 C.2.1 hd (lv_at hl j hj) (k C r ho ls H locs hl hP hS)
theorem s_aload_n {k : Fin 4} {i : Nat} {x : Nat} (hd : decode μ.2.1 pc = .ok (.aload_n k, 1)) (j : Nat) (hi : (k : Nat) = i) (hj : lv[j]? = some (i, .ref x)) (k : Sim Q Γ Ξ E μ σ (pc + 1) lv (.ref x :: st) o) : Sim Q Γ Ξ E μ σ pc lv st o := by
  intro C r ho ls H locs hl hP hS
  exact lv_aload_n C.1 C.2.1 hd hi (lv_at hl j hj) (k C r ho ls H locs hl hP hS)
theorem s_aload {i : Nat} {x : Nat} (hd : decode μ.2.1 pc = .ok (.aload i, 2)) (j : Nat) (hj : lv[j]? = some (i, .ref x)) (k : Sim Q Γ Ξ E μ σ (pc + 2) lv (.ref x :: st) o) : Sim Q Γ Ξ E μ σ pc lv st o := by
  intro C r ho ls H locs hl hP hS
  exact lv_aload C.1 C.2.1 hd (lv_at hl j hj) (k C r ho ls H locs hl hP hS)
theorem s_istore_n {k : Fin 4} {i : Nat} {x : Int32} (lv' : List (Nat × Value)) (hd : decode μ.2.1 pc = .ok (.istore_n k, 1)) (hi : (k : Nat) = i) (hn : i < μ.2.2.1) (hv : (i, Value.int x) :: lv.filter (fun q => !(q.1 == i) && !(q.1 + 1 == i && q.2.category == 2)) = lv') (k : Sim Q Γ Ξ E μ σ (pc + 1) lv' st o) : Sim Q Γ Ξ E μ σ pc lv (Value.int x :: st) o := by
  intro C r ho ls H locs hl hP hS
  exact lv_istore_n C.1 C.2.1 hd hi hl hn hv (fun ls hl => k C r ho ls H locs hl hP hS)
theorem s_istore_nB {k : Fin 4} {i : Nat} {x : Int32} {K : Int32 → Option ρ} (lvf : Int32 → List (Nat × Value)) (hd : decode μ.2.1 pc = .ok (.istore_n k, 1)) (hi : (k : Nat) = i) (hn : i < μ.2.2.1) (hv : ∀ x, (i, Value.int x) :: lv.filter (fun q => !(q.1 == i) && !(q.1 + 1 == i && q.2.category == 2)) = lvf x) (k : ∀ x, Sim Q Γ Ξ E μ σ (pc + 1) (lvf x) st (K x)) : Sim Q Γ Ξ E μ σ pc lv (Value.int x :: st) (bd x K) := by
  intro C r ho ls H locs hl hP hS
  exact lv_istore_n C.1 C.2.1 hd hi hl hn (hv x) (fun ls hl => k x C r ho ls H locs hl hP hS)
theorem s_istore {i : Nat} {x : Int32} (lv' : List (Nat × Value)) (hd : decode μ.2.1 pc = .ok (.istore i, 2)) (hn : i < μ.2.2.1) (hv : (i, Value.int x) :: lv.filter (fun q => !(q.1 == i) && !(q.1 + 1 == i && q.2.category == 2)) = lv') (k : Sim Q Γ Ξ E μ σ (pc + 2) lv' st o) : Sim Q Γ Ξ E μ σ pc lv (Value.int x :: st) o := by
  intro C r ho ls H locs hl hP hS
  exact lv_istore C.1 C.2.1 hd hl hn hv (fun ls hl => k C r ho ls H locs hl hP hS)
theorem s_istoreB {i : Nat} {x : Int32} {K : Int32 → Option ρ} (lvf : Int32 → List (Nat × Value)) (hd : decode μ.2.1 pc = .ok (.istore i, 2)) (hn : i < μ.2.2.1) (hv : ∀ x, (i, Value.int x) :: lv.filter (fun q => !(q.1 == i) && !(q.1 + 1 == i && q.2.category == 2)) = lvf x) (k : ∀ x, Sim Q Γ Ξ E μ σ (pc + 2) (lvf x) st (K x)) : Sim Q Γ Ξ E μ σ pc lv (Value.int x :: st) (bd x K) := by
  intro C r ho ls H locs hl hP hS
  exact lv_istore C.1 C.2.1 hd hl hn (hv x) (fun ls hl => k x C r ho ls H locs hl hP hS)
theorem s_lstore_n {k : Fin 4} {i : Nat} {x : Int64} (lv' : List (Nat × Value)) (hd : decode μ.2.1 pc = .ok (.lstore_n k, 1)) (hi : (k : Nat) = i) (hn : i + 1 < μ.2.2.1) (hv : (i, Value.long x) :: lv.filter (fun q => !(q.1 == i) && (!(q.1 == i + 1) && !(q.1 + 1 == i && q.2.category == 2))) = lv') (k : Sim Q Γ Ξ E μ σ (pc + 1) lv' st o) : Sim Q Γ Ξ E μ σ pc lv (Value.long x :: st) o := by
  intro C r ho ls H locs hl hP hS
  exact lv_lstore_n C.1 C.2.1 hd hi hl hn hv (fun ls hl => k C r ho ls H locs hl hP hS)
theorem s_lstore_nB {k : Fin 4} {i : Nat} {x : Int64} {K : Int64 → Option ρ} (lvf : Int64 → List (Nat × Value)) (hd : decode μ.2.1 pc = .ok (.lstore_n k, 1)) (hi : (k : Nat) = i) (hn : i + 1 < μ.2.2.1) (hv : ∀ x, (i, Value.long x) :: lv.filter (fun q => !(q.1 == i) && (!(q.1 == i + 1) && !(q.1 + 1 == i && q.2.category == 2))) = lvf x) (k : ∀ x, Sim Q Γ Ξ E μ σ (pc + 1) (lvf x) st (K x)) : Sim Q Γ Ξ E μ σ pc lv (Value.long x :: st) (bd x K) := by
  intro C r ho ls H locs hl hP hS
  exact lv_lstore_n C.1 C.2.1 hd hi hl hn (hv x) (fun ls hl => k x C r ho ls H locs hl hP hS)
theorem s_lstore {i : Nat} {x : Int64} (lv' : List (Nat × Value)) (hd : decode μ.2.1 pc = .ok (.lstore i, 2)) (hn : i + 1 < μ.2.2.1) (hv : (i, Value.long x) :: lv.filter (fun q => !(q.1 == i) && (!(q.1 == i + 1) && !(q.1 + 1 == i && q.2.category == 2))) = lv') (k : Sim Q Γ Ξ E μ σ (pc + 2) lv' st o) : Sim Q Γ Ξ E μ σ pc lv (Value.long x :: st) o := by
  intro C r ho ls H locs hl hP hS
  exact lv_lstore C.1 C.2.1 hd hl hn hv (fun ls hl => k C r ho ls H locs hl hP hS)
theorem s_lstoreB {i : Nat} {x : Int64} {K : Int64 → Option ρ} (lvf : Int64 → List (Nat × Value)) (hd : decode μ.2.1 pc = .ok (.lstore i, 2)) (hn : i + 1 < μ.2.2.1) (hv : ∀ x, (i, Value.long x) :: lv.filter (fun q => !(q.1 == i) && (!(q.1 == i + 1) && !(q.1 + 1 == i && q.2.category == 2))) = lvf x) (k : ∀ x, Sim Q Γ Ξ E μ σ (pc + 2) (lvf x) st (K x)) : Sim Q Γ Ξ E μ σ pc lv (Value.long x :: st) (bd x K) := by
  intro C r ho ls H locs hl hP hS
  exact lv_lstore C.1 C.2.1 hd hl hn (hv x) (fun ls hl => k x C r ho ls H locs hl hP hS)
theorem s_astore_n {k : Fin 4} {i : Nat} {x : Nat} (lv' : List (Nat × Value)) (hd : decode μ.2.1 pc = .ok (.astore_n k, 1)) (hi : (k : Nat) = i) (hn : i < μ.2.2.1) (hv : (i, Value.ref x) :: lv.filter (fun q => !(q.1 == i) && !(q.1 + 1 == i && q.2.category == 2)) = lv') (k : Sim Q Γ Ξ E μ σ (pc + 1) lv' st o) : Sim Q Γ Ξ E μ σ pc lv (Value.ref x :: st) o := by
  intro C r ho ls H locs hl hP hS
  exact lv_astore_n C.1 C.2.1 hd hi hl hn hv (fun ls hl => k C r ho ls H locs hl hP hS)
theorem s_astore {i : Nat} {x : Nat} (lv' : List (Nat × Value)) (hd : decode μ.2.1 pc = .ok (.astore i, 2)) (hn : i < μ.2.2.1) (hv : (i, Value.ref x) :: lv.filter (fun q => !(q.1 == i) && !(q.1 + 1 == i && q.2.category == 2)) = lv') (k : Sim Q Γ Ξ E μ σ (pc + 2) lv' st o) : Sim Q Γ Ξ E μ σ pc lv (Value.ref x :: st) o := by
  intro C r ho ls H locs hl hP hS
  exact lv_astore C.1 C.2.1 hd hl hn hv (fun ls hl => k C r ho ls H locs hl hP hS)
theorem s_iinc {i : Nat} {n : Int} {x v : Int32} (lv' : List (Nat × Value)) (hd : decode μ.2.1 pc = .ok (.iinc i n, 3)) (j : Nat) (hj : lv[j]? = some (i, .int x)) (hv : x + Int32.ofInt n = v) (hn : i < μ.2.2.1) (hl' : (i, Value.int v) :: lv.filter (fun q => !(q.1 == i) && !(q.1 + 1 == i && q.2.category == 2)) = lv') (k : Sim Q Γ Ξ E μ σ (pc + 3) lv' st o) : Sim Q Γ Ξ E μ σ pc lv st o := by
  intro C r ho ls H locs hl hP hS
  exact lv_iinc C.1 C.2.1 hd hl hj hv hn hl' (fun ls hl => k C r ho ls H locs hl hP hS)
theorem s_iadd {x y : Int32} (hd : decode μ.2.1 pc = .ok (.iadd, 1)) (k : Sim Q Γ Ξ E μ σ (pc + 1) lv (.int (x + y) :: st) o) : Sim Q Γ Ξ E μ σ pc lv (.int y :: .int x :: st) o := by
  intro C r ho ls H locs hl hP hS
  exact lv_iadd C.1 C.2.1 hd (k C r ho ls H locs hl hP hS)
theorem s_isub {x y : Int32} (hd : decode μ.2.1 pc = .ok (.isub, 1)) (k : Sim Q Γ Ξ E μ σ (pc + 1) lv (.int (x - y) :: st) o) : Sim Q Γ Ξ E μ σ pc lv (.int y :: .int x :: st) o := by
  intro C r ho ls H locs hl hP hS
  exact lv_isub C.1 C.2.1 hd (k C r ho ls H locs hl hP hS)
theorem s_imul {x y : Int32} (hd : decode μ.2.1 pc = .ok (.imul, 1)) (k : Sim Q Γ Ξ E μ σ (pc + 1) lv (.int (x * y) :: st) o) : Sim Q Γ Ξ E μ σ pc lv (.int y :: .int x :: st) o := by
  intro C r ho ls H locs hl hP hS
  exact lv_imul C.1 C.2.1 hd (k C r ho ls H locs hl hP hS)
theorem s_iand {x y : Int32} (hd : decode μ.2.1 pc = .ok (.iand, 1)) (k : Sim Q Γ Ξ E μ σ (pc + 1) lv (.int (x &&& y) :: st) o) : Sim Q Γ Ξ E μ σ pc lv (.int y :: .int x :: st) o := by
  intro C r ho ls H locs hl hP hS
  exact lv_iand C.1 C.2.1 hd (k C r ho ls H locs hl hP hS)
theorem s_ior {x y : Int32} (hd : decode μ.2.1 pc = .ok (.ior, 1)) (k : Sim Q Γ Ξ E μ σ (pc + 1) lv (.int (x ||| y) :: st) o) : Sim Q Γ Ξ E μ σ pc lv (.int y :: .int x :: st) o := by
  intro C r ho ls H locs hl hP hS
  exact lv_ior C.1 C.2.1 hd (k C r ho ls H locs hl hP hS)
theorem s_ixor {x y : Int32} (hd : decode μ.2.1 pc = .ok (.ixor, 1)) (k : Sim Q Γ Ξ E μ σ (pc + 1) lv (.int (x ^^^ y) :: st) o) : Sim Q Γ Ξ E μ σ pc lv (.int y :: .int x :: st) o := by
  intro C r ho ls H locs hl hP hS
  exact lv_ixor C.1 C.2.1 hd (k C r ho ls H locs hl hP hS)
theorem s_ishl {x y : Int32} (hd : decode μ.2.1 pc = .ok (.ishl, 1)) (k : Sim Q Γ Ξ E μ σ (pc + 1) lv (.int (x <<< (y &&& 31)) :: st) o) : Sim Q Γ Ξ E μ σ pc lv (.int y :: .int x :: st) o := by
  intro C r ho ls H locs hl hP hS
  exact lv_ishl C.1 C.2.1 hd (k C r ho ls H locs hl hP hS)
theorem s_ishr {x y : Int32} (hd : decode μ.2.1 pc = .ok (.ishr, 1)) (k : Sim Q Γ Ξ E μ σ (pc + 1) lv (.int (x >>> (y &&& 31)) :: st) o) : Sim Q Γ Ξ E μ σ pc lv (.int y :: .int x :: st) o := by
  intro C r ho ls H locs hl hP hS
  exact lv_ishr C.1 C.2.1 hd (k C r ho ls H locs hl hP hS)
theorem s_idiv {x y : Int32} (hd : decode μ.2.1 pc = .ok (.idiv, 1)) (hne : ¬ y = 0) (k : Sim Q Γ Ξ E μ σ (pc + 1) lv (.int (x / y) :: st) o) : Sim Q Γ Ξ E μ σ pc lv (.int y :: .int x :: st) o := by
  intro C r ho ls H locs hl hP hS
  exact lv_idiv C.1 C.2.1 hd hne (k C r ho ls H locs hl hP hS)
theorem s_irem {x y : Int32} (hd : decode μ.2.1 pc = .ok (.irem, 1)) (hne : ¬ y = 0) (k : Sim Q Γ Ξ E μ σ (pc + 1) lv (.int (x - x / y * y) :: st) o) : Sim Q Γ Ξ E μ σ pc lv (.int y :: .int x :: st) o := by
  intro C r ho ls H locs hl hP hS
  exact lv_irem C.1 C.2.1 hd hne (k C r ho ls H locs hl hP hS)
theorem s_iushr {x y v : Int32} (hd : decode μ.2.1 pc = .ok (.iushr, 1)) (hv : (x.toUInt32 >>> (y.toUInt32 &&& Int32.toUInt32 31)).toInt32 = v) (k : Sim Q Γ Ξ E μ σ (pc + 1) lv (.int v :: st) o) : Sim Q Γ Ξ E μ σ pc lv (.int y :: .int x :: st) o := by
  intro C r ho ls H locs hl hP hS
  exact lv_iushr C.1 C.2.1 hd hv (k C r ho ls H locs hl hP hS)
theorem s_ineg {x : Int32} (hd : decode μ.2.1 pc = .ok (.ineg, 1)) (k : Sim Q Γ Ξ E μ σ (pc + 1) lv (.int (-x) :: st) o) : Sim Q Γ Ξ E μ σ pc lv (.int x :: st) o := by
  intro C r ho ls H locs hl hP hS
  exact lv_ineg C.1 C.2.1 hd (k C r ho ls H locs hl hP hS)
theorem s_ladd {x y : Int64} (hd : decode μ.2.1 pc = .ok (.ladd, 1)) (k : Sim Q Γ Ξ E μ σ (pc + 1) lv (.long (x + y) :: st) o) : Sim Q Γ Ξ E μ σ pc lv (.long y :: .long x :: st) o := by
  intro C r ho ls H locs hl hP hS
  exact lv_ladd C.1 C.2.1 hd (k C r ho ls H locs hl hP hS)
theorem s_lsub {x y : Int64} (hd : decode μ.2.1 pc = .ok (.lsub, 1)) (k : Sim Q Γ Ξ E μ σ (pc + 1) lv (.long (x - y) :: st) o) : Sim Q Γ Ξ E μ σ pc lv (.long y :: .long x :: st) o := by
  intro C r ho ls H locs hl hP hS
  exact lv_lsub C.1 C.2.1 hd (k C r ho ls H locs hl hP hS)
theorem s_lmul {x y : Int64} (hd : decode μ.2.1 pc = .ok (.lmul, 1)) (k : Sim Q Γ Ξ E μ σ (pc + 1) lv (.long (x * y) :: st) o) : Sim Q Γ Ξ E μ σ pc lv (.long y :: .long x :: st) o := by
  intro C r ho ls H locs hl hP hS
  exact lv_lmul C.1 C.2.1 hd (k C r ho ls H locs hl hP hS)
theorem s_land {x y : Int64} (hd : decode μ.2.1 pc = .ok (.land, 1)) (k : Sim Q Γ Ξ E μ σ (pc + 1) lv (.long (x &&& y) :: st) o) : Sim Q Γ Ξ E μ σ pc lv (.long y :: .long x :: st) o := by
  intro C r ho ls H locs hl hP hS
  exact lv_land C.1 C.2.1 hd (k C r ho ls H locs hl hP hS)
theorem s_lor {x y : Int64} (hd : decode μ.2.1 pc = .ok (.lor, 1)) (k : Sim Q Γ Ξ E μ σ (pc + 1) lv (.long (x ||| y) :: st) o) : Sim Q Γ Ξ E μ σ pc lv (.long y :: .long x :: st) o := by
  intro C r ho ls H locs hl hP hS
  exact lv_lor C.1 C.2.1 hd (k C r ho ls H locs hl hP hS)
theorem s_lxor {x y : Int64} (hd : decode μ.2.1 pc = .ok (.lxor, 1)) (k : Sim Q Γ Ξ E μ σ (pc + 1) lv (.long (x ^^^ y) :: st) o) : Sim Q Γ Ξ E μ σ pc lv (.long y :: .long x :: st) o := by
  intro C r ho ls H locs hl hP hS
  exact lv_lxor C.1 C.2.1 hd (k C r ho ls H locs hl hP hS)
theorem s_lneg {x : Int64} (hd : decode μ.2.1 pc = .ok (.lneg, 1)) (k : Sim Q Γ Ξ E μ σ (pc + 1) lv (.long (-x) :: st) o) : Sim Q Γ Ξ E μ σ pc lv (.long x :: st) o := by
  intro C r ho ls H locs hl hP hS
  exact lv_lneg C.1 C.2.1 hd (k C r ho ls H locs hl hP hS)
theorem s_lushr {x v : Int64} {y : Int32} (hd : decode μ.2.1 pc = .ok (.lushr, 1)) (hv : (x.toUInt64 >>> (y.toInt64.toUInt64 &&& Int64.toUInt64 63)).toInt64 = v) (k : Sim Q Γ Ξ E μ σ (pc + 1) lv (.long v :: st) o) : Sim Q Γ Ξ E μ σ pc lv (.int y :: .long x :: st) o := by
  intro C r ho ls H locs hl hP hS
  exact lv_lushr C.1 C.2.1 hd hv (k C r ho ls H locs hl hP hS)
theorem s_lshl {x v : Int64} {y : Int32} (hd : decode μ.2.1 pc = .ok (.lshl, 1)) (hv : x <<< (y.toInt64 &&& 63) = v) (k : Sim Q Γ Ξ E μ σ (pc + 1) lv (.long v :: st) o) : Sim Q Γ Ξ E μ σ pc lv (.int y :: .long x :: st) o := by
  intro C r ho ls H locs hl hP hS
  exact lv_lshl C.1 C.2.1 hd hv (k C r ho ls H locs hl hP hS)
theorem s_lshr {x v : Int64} {y : Int32} (hd : decode μ.2.1 pc = .ok (.lshr, 1)) (hv : x >>> (y.toInt64 &&& 63) = v) (k : Sim Q Γ Ξ E μ σ (pc + 1) lv (.long v :: st) o) : Sim Q Γ Ξ E μ σ pc lv (.int y :: .long x :: st) o := by
  intro C r ho ls H locs hl hP hS
  exact lv_lshr C.1 C.2.1 hd hv (k C r ho ls H locs hl hP hS)
theorem s_i2l {x : Int32} {v : Int64} (hd : decode μ.2.1 pc = .ok (.i2l, 1)) (hv : x.toInt64 = v) (k : Sim Q Γ Ξ E μ σ (pc + 1) lv (.long v :: st) o) : Sim Q Γ Ξ E μ σ pc lv (.int x :: st) o := by
  intro C r ho ls H locs hl hP hS
  exact lv_i2l C.1 C.2.1 hd hv (k C r ho ls H locs hl hP hS)
theorem s_l2i {x : Int64} {v : Int32} (hd : decode μ.2.1 pc = .ok (.l2i, 1)) (hv : x.toInt32 = v) (k : Sim Q Γ Ξ E μ σ (pc + 1) lv (.int v :: st) o) : Sim Q Γ Ξ E μ σ pc lv (.long x :: st) o := by
  intro C r ho ls H locs hl hP hS
  exact lv_l2i C.1 C.2.1 hd hv (k C r ho ls H locs hl hP hS)
theorem s_lcmp {x y : Int64} (hd : decode μ.2.1 pc = .ok (.lcmp, 1)) (k : Sim Q Γ Ξ E μ σ (pc + 1) lv (.int (lg_cmp x y) :: st) o) : Sim Q Γ Ξ E μ σ pc lv (.long y :: .long x :: st) o := by
  intro C r ho ls H locs hl hP hS
  exact W.lcmp C.1 C.2.1 hd (k C r ho ls H locs hl hP hS)
theorem s_dup {va : Value} (hd : decode μ.2.1 pc = .ok (.dup, 1)) (hva : va.category = 1) (k : Sim Q Γ Ξ E μ σ (pc + 1) lv (va :: va :: st) o) : Sim Q Γ Ξ E μ σ pc lv (va :: st) o := by
  intro C r ho ls H locs hl hP hS
  exact lv_dup C.1 C.2.1 hd hva (k C r ho ls H locs hl hP hS)
theorem s_pop {va : Value} (hd : decode μ.2.1 pc = .ok (.pop, 1)) (hva : va.category = 1) (k : Sim Q Γ Ξ E μ σ (pc + 1) lv (st) o) : Sim Q Γ Ξ E μ σ pc lv (va :: st) o := by
  intro C r ho ls H locs hl hP hS
  exact lv_pop C.1 C.2.1 hd hva (k C r ho ls H locs hl hP hS)
theorem s_dup2 {va vb : Value} (hd : decode μ.2.1 pc = .ok (.dup2, 1)) (hva : va.category = 1) (hvb : vb.category = 1) (k : Sim Q Γ Ξ E μ σ (pc + 1) lv (va :: vb :: va :: vb :: st) o) : Sim Q Γ Ξ E μ σ pc lv (va :: vb :: st) o := by
  intro C r ho ls H locs hl hP hS
  exact lv_dup2_11 C.1 C.2.1 hd hva hvb (k C r ho ls H locs hl hP hS)
theorem s_goto {off : Int} (tgt : Nat) (hd : decode μ.2.1 pc = .ok (.goto off, 3)) (ht : (pc : Int) + off = (tgt : Int)) (k : Sim Q Γ Ξ E μ σ tgt lv st o) : Sim Q Γ Ξ E μ σ pc lv st o := by
  intro C r ho ls H locs hl hP hS
  exact lv_goto C.1 C.2.1 hd ht (k C r ho ls H locs hl hP hS)
theorem i_nle {x y : Int32} (h : ¬ x < y) : y ≤ x := by
  rw [Int32.lt_iff_toInt_lt] at h
  rw [Int32.le_iff_toInt_le]
  omega
theorem i_nlt {x y : Int32} (h : x ≤ y) : ¬ y < x := by
  rw [Int32.le_iff_toInt_le] at h
  rw [Int32.lt_iff_toInt_lt]
  omega
theorem fa_lt' (x y : Int32) : x < y ∨ y ≤ x := by
  by_cases h : x < y
  · exact Or.inl h
  · exact Or.inr (i_nle h)
theorem s_if_eq {x : Int32} {off : Int} (tgt : Nat) (hd : decode μ.2.1 pc = .ok (.ifCond .eq off, 3)) (ht : (pc : Int) + off = (tgt : Int)) (kT : Sim Q Γ Ξ E μ σ (tgt) lv st oT) (kF : Sim Q Γ Ξ E μ σ (pc + 3) lv st oF) : Sim Q Γ Ξ E μ σ pc lv (.int x :: st) (if x = 0 then oT else oF) := by
  intro C r ho ls H locs hl hP hS
  exact lv_if_eq C.1 C.2.1 hd ht (fun c => kT C r (by rw [if_pos c] at ho; exact ho) ls H locs hl hP hS) (fun c => kF C r (by rw [if_neg c] at ho; exact ho) ls H locs hl hP hS)
theorem s_if_ne {x : Int32} {off : Int} (tgt : Nat) (hd : decode μ.2.1 pc = .ok (.ifCond .ne off, 3)) (ht : (pc : Int) + off = (tgt : Int)) (kT : Sim Q Γ Ξ E μ σ (pc + 3) lv st oT) (kF : Sim Q Γ Ξ E μ σ (tgt) lv st oF) : Sim Q Γ Ξ E μ σ pc lv (.int x :: st) (if x = 0 then oT else oF) := by
  intro C r ho ls H locs hl hP hS
  exact lv_if_ne C.1 C.2.1 hd ht (fun c => kF C r (by rw [if_neg c] at ho; exact ho) ls H locs hl hP hS) (fun c => kT C r (by rw [if_pos c] at ho; exact ho) ls H locs hl hP hS)
theorem s_if_lt {x : Int32} {off : Int} (tgt : Nat) (hd : decode μ.2.1 pc = .ok (.ifCond .lt off, 3)) (ht : (pc : Int) + off = (tgt : Int)) (kT : Sim Q Γ Ξ E μ σ (tgt) lv st oT) (kF : Sim Q Γ Ξ E μ σ (pc + 3) lv st oF) : Sim Q Γ Ξ E μ σ pc lv (.int x :: st) (if x < 0 then oT else oF) := by
  intro C r ho ls H locs hl hP hS
  exact lv_if_lt C.1 C.2.1 hd ht (fun c => kT C r (by rw [if_pos c] at ho; exact ho) ls H locs hl hP hS) (fun c => kF C r (by rw [if_neg c] at ho; exact ho) ls H locs hl hP hS)
theorem s_if_ge {x : Int32} {off : Int} (tgt : Nat) (hd : decode μ.2.1 pc = .ok (.ifCond .ge off, 3)) (ht : (pc : Int) + off = (tgt : Int)) (kT : Sim Q Γ Ξ E μ σ (pc + 3) lv st oT) (kF : Sim Q Γ Ξ E μ σ (tgt) lv st oF) : Sim Q Γ Ξ E μ σ pc lv (.int x :: st) (if x < 0 then oT else oF) := by
  intro C r ho ls H locs hl hP hS
  exact lv_if_ge C.1 C.2.1 hd ht (fun c => kF C r (by rw [if_neg (i_nlt c)] at ho; exact ho) ls H locs hl hP hS) (fun c => kT C r (by rw [if_pos (by rcases fa_lt' x 0 with q | q; exact q; exact absurd q c)] at ho; exact ho) ls H locs hl hP hS)
theorem s_if_gt {x : Int32} {off : Int} (tgt : Nat) (hd : decode μ.2.1 pc = .ok (.ifCond .gt off, 3)) (ht : (pc : Int) + off = (tgt : Int)) (kT : Sim Q Γ Ξ E μ σ (tgt) lv st oT) (kF : Sim Q Γ Ξ E μ σ (pc + 3) lv st oF) : Sim Q Γ Ξ E μ σ pc lv (.int x :: st) (if 0 < x then oT else oF) := by
  intro C r ho ls H locs hl hP hS
  exact lv_if_gt C.1 C.2.1 hd ht (fun c => kT C r (by rw [if_pos c] at ho; exact ho) ls H locs hl hP hS) (fun c => kF C r (by rw [if_neg c] at ho; exact ho) ls H locs hl hP hS)
theorem s_if_le {x : Int32} {off : Int} (tgt : Nat) (hd : decode μ.2.1 pc = .ok (.ifCond .le off, 3)) (ht : (pc : Int) + off = (tgt : Int)) (kT : Sim Q Γ Ξ E μ σ (pc + 3) lv st oT) (kF : Sim Q Γ Ξ E μ σ (tgt) lv st oF) : Sim Q Γ Ξ E μ σ pc lv (.int x :: st) (if 0 < x then oT else oF) := by
  intro C r ho ls H locs hl hP hS
  exact lv_if_le C.1 C.2.1 hd ht (fun c => kF C r (by rw [if_neg (i_nlt c)] at ho; exact ho) ls H locs hl hP hS) (fun c => kT C r (by rw [if_pos (by rcases fa_lt' 0 x with q | q; exact q; exact absurd q c)] at ho; exact ho) ls H locs hl hP hS)
theorem s_icmp_eq {x y : Int32} {off : Int} (tgt : Nat) (hd : decode μ.2.1 pc = .ok (.if_icmp .eq off, 3)) (ht : (pc : Int) + off = (tgt : Int)) (kT : Sim Q Γ Ξ E μ σ (tgt) lv st oT) (kF : Sim Q Γ Ξ E μ σ (pc + 3) lv st oF) : Sim Q Γ Ξ E μ σ pc lv (.int y :: .int x :: st) (if x = y then oT else oF) := by
  intro C r ho ls H locs hl hP hS
  exact lv_icmp_eq C.1 C.2.1 hd ht (fun c => kT C r (by rw [if_pos c] at ho; exact ho) ls H locs hl hP hS) (fun c => kF C r (by rw [if_neg c] at ho; exact ho) ls H locs hl hP hS)
theorem s_icmp_ne {x y : Int32} {off : Int} (tgt : Nat) (hd : decode μ.2.1 pc = .ok (.if_icmp .ne off, 3)) (ht : (pc : Int) + off = (tgt : Int)) (kT : Sim Q Γ Ξ E μ σ (pc + 3) lv st oT) (kF : Sim Q Γ Ξ E μ σ (tgt) lv st oF) : Sim Q Γ Ξ E μ σ pc lv (.int y :: .int x :: st) (if x = y then oT else oF) := by
  intro C r ho ls H locs hl hP hS
  exact lv_icmp_ne C.1 C.2.1 hd ht (fun c => kF C r (by rw [if_neg c] at ho; exact ho) ls H locs hl hP hS) (fun c => kT C r (by rw [if_pos c] at ho; exact ho) ls H locs hl hP hS)
theorem s_icmp_lt {x y : Int32} {off : Int} (tgt : Nat) (hd : decode μ.2.1 pc = .ok (.if_icmp .lt off, 3)) (ht : (pc : Int) + off = (tgt : Int)) (kT : Sim Q Γ Ξ E μ σ (tgt) lv st oT) (kF : Sim Q Γ Ξ E μ σ (pc + 3) lv st oF) : Sim Q Γ Ξ E μ σ pc lv (.int y :: .int x :: st) (if x < y then oT else oF) := by
  intro C r ho ls H locs hl hP hS
  exact lv_icmp_lt C.1 C.2.1 hd ht (fun c => kT C r (by rw [if_pos c] at ho; exact ho) ls H locs hl hP hS) (fun c => kF C r (by rw [if_neg c] at ho; exact ho) ls H locs hl hP hS)
theorem s_icmp_ge {x y : Int32} {off : Int} (tgt : Nat) (hd : decode μ.2.1 pc = .ok (.if_icmp .ge off, 3)) (ht : (pc : Int) + off = (tgt : Int)) (kT : Sim Q Γ Ξ E μ σ (pc + 3) lv st oT) (kF : Sim Q Γ Ξ E μ σ (tgt) lv st oF) : Sim Q Γ Ξ E μ σ pc lv (.int y :: .int x :: st) (if x < y then oT else oF) := by
  intro C r ho ls H locs hl hP hS
  exact lv_icmp_ge C.1 C.2.1 hd ht (fun c => kF C r (by rw [if_neg (i_nlt c)] at ho; exact ho) ls H locs hl hP hS) (fun c => kT C r (by rw [if_pos (by rcases fa_lt' x y with q | q; exact q; exact absurd q c)] at ho; exact ho) ls H locs hl hP hS)
theorem s_icmp_gt {x y : Int32} {off : Int} (tgt : Nat) (hd : decode μ.2.1 pc = .ok (.if_icmp .gt off, 3)) (ht : (pc : Int) + off = (tgt : Int)) (kT : Sim Q Γ Ξ E μ σ (tgt) lv st oT) (kF : Sim Q Γ Ξ E μ σ (pc + 3) lv st oF) : Sim Q Γ Ξ E μ σ pc lv (.int y :: .int x :: st) (if y < x then oT else oF) := by
  intro C r ho ls H locs hl hP hS
  exact lv_icmp_gt C.1 C.2.1 hd ht (fun c => kT C r (by rw [if_pos c] at ho; exact ho) ls H locs hl hP hS) (fun c => kF C r (by rw [if_neg c] at ho; exact ho) ls H locs hl hP hS)
theorem s_icmp_le {x y : Int32} {off : Int} (tgt : Nat) (hd : decode μ.2.1 pc = .ok (.if_icmp .le off, 3)) (ht : (pc : Int) + off = (tgt : Int)) (kT : Sim Q Γ Ξ E μ σ (pc + 3) lv st oT) (kF : Sim Q Γ Ξ E μ σ (tgt) lv st oF) : Sim Q Γ Ξ E μ σ pc lv (.int y :: .int x :: st) (if y < x then oT else oF) := by
  intro C r ho ls H locs hl hP hS
  exact lv_icmp_le C.1 C.2.1 hd ht (fun c => kF C r (by rw [if_neg (i_nlt c)] at ho; exact ho) ls H locs hl hP hS) (fun c => kT C r (by rw [if_pos (by rcases fa_lt' y x with q | q; exact q; exact absurd q c)] at ho; exact ho) ls H locs hl hP hS)
theorem s_ldc {own : String} {index : Nat} {v : Int32} (hown : μ.1.cls = own) (hw : Cond.constant own index v ∈ tT) (hd : decode μ.2.1 pc = .ok (.ldc index, 2)) (k : Sim Q Γ Ξ E μ σ (pc + 2) lv (.int v :: st) o) : Sim Q Γ Ξ E μ σ pc lv st o := by
  intro C r ho ls H locs hl hP hS
  obtain ⟨hx, hb, hml, hr, hown', hts, hlocks, hK, ⟨hE, hA, hcc, hcs⟩, hKs⟩ := id C
  rw [hown] at hown'
  exact lv_ldc hx hb hown' (hts _ hw) hd (k C r ho ls H locs hl hP hS)
theorem s_ldcw {own : String} {index : Nat} {v : Int32} (hown : μ.1.cls = own) (hw : Cond.constant own index v ∈ tT) (hd : decode μ.2.1 pc = .ok (.ldc_w index, 3)) (k : Sim Q Γ Ξ E μ σ (pc + 3) lv (.int v :: st) o) : Sim Q Γ Ξ E μ σ pc lv st o := by
  intro C r ho ls H locs hl hP hS
  obtain ⟨hx, hb, hml, hr, hown', hts, hlocks, hK, ⟨hE, hA, hcc, hcs⟩, hKs⟩ := id C
  rw [hown] at hown'
  exact lv_ldcw hx hb hown' (hts _ hw) hd (k C r ho ls H locs hl hP hS)
theorem s_ldc2 {own : String} {index : Nat} {v : Int64} (hown : μ.1.cls = own) (hw : Cond.constantLong own index v ∈ tT) (hd : decode μ.2.1 pc = .ok (.ldc2_w index, 3)) (k : Sim Q Γ Ξ E μ σ (pc + 3) lv (.long v :: st) o) : Sim Q Γ Ξ E μ σ pc lv st o := by
  intro C r ho ls H locs hl hP hS
  obtain ⟨hx, hb, hml, hr, hown', hts, hlocks, hK, ⟨hE, hA, hcc, hcs⟩, hKs⟩ := id C
  rw [hown] at hown'
  exact lv_ldc2 hx hb hown' (hts _ hw) hd (k C r ho ls H locs hl hP hS)
/-- fields -/
def FL (own : String) (idx ci k : Nat) (fin : Bool) (ty : FieldType) : Prop := ∃ (C : String) (T : u_T) (N : Nat) (ty0 : Nat → FieldType), vwCl[ci]? = some (C, T, N) ∧ (∀ w ∈ u_ws C T N, w ∈ tT) ∧ (∀ j, j < N → parseFieldDescriptor (T j).2.2.1 = some (ty0 j)) ∧ (∀ a, a < N → ∀ b, b < N → a ≠ b → (T a).2.1 ≠ (T b).2.1) ∧ k < N ∧ Cond.fieldLink own idx (T k).1 (T k).2.1 (T k).2.2.1 ∈ tT ∧ (T k).2.2.2 = fin ∧ ty0 k = ty ∧ ci < 11
theorem s_get {own : String} {idx ci k t a : Nat} {fin : Bool} {ty : FieldType} (hF : FL own idx ci k fin ty) (hown : μ.1.cls = own) (hm : a ∈ E.2.2.2.1) (hkd : kd a = ci) (hft : ft a k = some t) (hd : decode μ.2.1 pc = .ok (.getfield idx, 3)) (kk : Sim Q Γ Ξ E μ σ (pc + 3) lv (fv E σ a t k :: st) o) : Sim Q Γ Ξ E μ σ pc lv (rV E a :: st) o := by
  intro Cc r ho ls H locs hl hP hS
  obtain ⟨hx, hb, hml, hr, hown', hts, hlocks, hK, ⟨hE, hA, hcc, hcs⟩, hKs⟩ := id Cc
  rw [hown] at hown'
  obtain ⟨C, T, N, ty0, h1, h2, h3, h4, h5, h6, h7, h8, h9⟩ := hF
  obtain ⟨q0, -, hq⟩ := ws_get σ hm
  rw [cont_o E σ hkd h9] at hq
  exact va_get (C := C) (T := T) (N := N) (ci := ci) hx hb hts h2 hown' hK hP q0 hq h1 k h5 (hts _ h6) (fun _ h => h) (flds_get E σ hft) hd (kk Cc r ho ls H locs hl hP hS)
theorem s_geti {own : String} {idx ci k a : Nat} {fin : Bool} {ty : FieldType} (hF : FL own idx ci k fin ty) (hown : μ.1.cls = own) (hm : a ∈ E.2.2.2.1) (hkd : kd a = ci) (hft : ft a k = some 0) (hd : decode μ.2.1 pc = .ok (.getfield idx, 3)) (kk : Sim Q Γ Ξ E μ σ (pc + 3) lv (.int (σ.1 a k) :: st) o) : Sim Q Γ Ξ E μ σ pc lv (rV E a :: st) o := s_get hF hown hm hkd hft hd kk
theorem s_getl {own : String} {idx ci k a : Nat} {fin : Bool} {ty : FieldType} (hF : FL own idx ci k fin ty) (hown : μ.1.cls = own) (hm : a ∈ E.2.2.2.1) (hkd : kd a = ci) (hft : ft a k = some 1) (hd : decode μ.2.1 pc = .ok (.getfield idx, 3)) (kk : Sim Q Γ Ξ E μ σ (pc + 3) lv (.long (σ.2 a k) :: st) o) : Sim Q Γ Ξ E μ σ pc lv (rV E a :: st) o := s_get hF hown hm hkd hft hd kk
theorem s_getr {own : String} {idx ci k a b : Nat} {fin : Bool} {ty : FieldType} (hF : FL own idx ci k fin ty) (hown : μ.1.cls = own) (hm : a ∈ E.2.2.2.1) (hkd : kd a = ci) (hft : ft a k = some 2) (hrr : E.2.2.2.2 a k = true) (hr : rf a k = b) (hd : decode μ.2.1 pc = .ok (.getfield idx, 3)) (kk : Sim Q Γ Ξ E μ σ (pc + 3) lv (rV E b :: st) o) : Sim Q Γ Ξ E μ σ pc lv (rV E a :: st) o := by
  subst hr
  exact s_get hF hown hm hkd hft hd (by simpa [fv, hrr] using kk)
/-- the one field that holds a Settings, by its number -/
theorem s_getS {own : String} {idx ci k a : Nat} {fin : Bool} {ty : FieldType} {K : Nat → Option ρ} (hF : FL own idx ci k fin ty) (hown : μ.1.cls = own) (hm : a ∈ E.2.2.2.1) (hkd : kd a = ci) (hft : ft a k = some 3) (hrr : E.2.2.2.2 a k = true) (hd : decode μ.2.1 pc = .ok (.getfield idx, 3)) (kk : ∀ j, j < 3 → Sim Q Γ Ξ E μ σ (pc + 3) lv (rV E (32 + 2 * j) :: st) (K j)) : Sim Q Γ Ξ E μ σ pc lv (rV E a :: st) (ckN (σ.1 a k).toNatClampNeg 3 (bd (σ.1 a k).toNatClampNeg K)) := by
  intro Cc r ho
  obtain ⟨h1, h2⟩ := ckN_in ho
  refine s_get hF hown hm hkd hft hd ?_ Cc r h2
  have := kk _ h1
  simpa [fv, hrr, bd] using this
theorem s_put {own : String} {idx ci k t a : Nat} {ty : FieldType} {v : Value} {σ1 : St} (hF : FL own idx ci k false ty) (hown : μ.1.cls = own) (hm : a ∈ E.2.2.2.1) (hkd : kd a = ci) (hft : ft a k = some t) (hn : narrow ty v = v) (hfit : fits ty v = true) (hv : fv E σ1 a t k = v) (h1n : ∀ j, j ≠ k → σ1.1 a j = σ.1 a j ∧ σ1.2 a j = σ.2 a j) (h2n : ∀ b, b ≠ a → σ1.1 b = σ.1 b ∧ σ1.2 b = σ.2 b) (hd : decode μ.2.1 pc = .ok (.putfield idx, 3)) (kk : Sim Q Γ Ξ E μ σ1 (pc + 3) lv st o) : Sim Q Γ Ξ E μ σ pc lv (v :: rV E a :: st) o := by
  intro Cc r ho ls H locs hl hP hS
  obtain ⟨hx, hb, hml, hr, hown', hts, hlocks, hK, ⟨hE, hA, hcc, hcs⟩, hKs⟩ := id Cc
  rw [hown] at hown'
  obtain ⟨C, T, N, ty0, h1, h2, h3, h4, h5, h6, h7, h8, h9⟩ := hF
  obtain ⟨q0, hq0, hq⟩ := ws_get σ hm
  rw [cont_o E σ hkd h9] at hq
  refine va_put (C := C) (T := T) (N := N) (ci := ci) (ty := ty) hx hb hts h2 ty0 h3 h4 hown' hK hP (ws_D hE hA σ) hS q0 hq h1 k h5 (hts _ h6) (fun _ h => h) h7 (by rw [h3 k h5, h8]) hn hfit (flds_len E σ hft) hd (fun H1 locs1 hP1 _ hS1 => ?_)
  refine kk Cc r ho ls H1 locs1 hl ?_ hS1
  rw [← flds_set E hft hv h1n, ← cont_o E σ1 hkd h9, ws_set hE hq0 (fun b hb => cont_cg E (h2n b hb).1 (h2n b hb).2)] at hP1
  exact hP1
theorem s_puti {own : String} {idx ci k a : Nat} {x : Int32} {K : St → Option ρ} (hF : FL own idx ci k false .int) (hown : μ.1.cls = own) (hm : a ∈ E.2.2.2.1) (hkd : kd a = ci) (hft : ft a k = some 0) (hd : decode μ.2.1 pc = .ok (.putfield idx, 3)) (kk : ∀ σ1, Sim Q Γ Ξ E μ σ1 (pc + 3) lv st (K σ1)) : Sim Q Γ Ξ E μ σ pc lv (.int x :: rV E a :: st) (bd (setI σ a k x) K) :=
  s_put (σ1 := setI σ a k x) hF hown hm hkd hft rfl rfl (by show Value.int ((setI σ a k x).1 a k) = _; rw [setI_s]; simp [upd]) (fun j hj => ⟨by rw [setI_s]; simp [upd, hj], rfl⟩) (fun b hb => ⟨setI_n σ k x hb, rfl⟩) hd (kk _)
theorem s_putz {own : String} {idx ci k a : Nat} {x : Int32} {K : St → Option ρ} (hF : FL own idx ci k false .boolean) (hown : μ.1.cls = own) (hm : a ∈ E.2.2.2.1) (hkd : kd a = ci) (hft : ft a k = some 0) (hz : x = 0 ∨ x = 1) (hd : decode μ.2.1 pc = .ok (.putfield idx, 3)) (kk : ∀ σ1, Sim Q Γ Ξ E μ σ1 (pc + 3) lv st (K σ1)) : Sim Q Γ Ξ E μ σ pc lv (.int x :: rV E a :: st) (bd (setI σ a k x) K) :=
  s_put (σ1 := setI σ a k x) hF hown hm hkd hft (by rcases hz with rfl | rfl <;> rfl) (by rcases hz with rfl | rfl <;> rfl) (by show Value.int ((setI σ a k x).1 a k) = _; rw [setI_s]; simp [upd]) (fun j hj => ⟨by rw [setI_s]; simp [upd, hj], rfl⟩) (fun b hb => ⟨setI_n σ k x hb, rfl⟩) hd (kk _)
theorem s_putl {own : String} {idx ci k a : Nat} {x : Int64} {K : St → Option ρ} (hF : FL own idx ci k false .long) (hown : μ.1.cls = own) (hm : a ∈ E.2.2.2.1) (hkd : kd a = ci) (hft : ft a k = some 1) (hd : decode μ.2.1 pc = .ok (.putfield idx, 3)) (kk : ∀ σ1, Sim Q Γ Ξ E μ σ1 (pc + 3) lv st (K σ1)) : Sim Q Γ Ξ E μ σ pc lv (.long x :: rV E a :: st) (bd (setL σ a k x) K) :=
  s_put (σ1 := setL σ a k x) hF hown hm hkd hft rfl rfl (by show Value.long ((setL σ a k x).2 a k) = _; rw [setL_s]; simp [vp_updL]) (fun j hj => ⟨rfl, by rw [setL_s]; simp [vp_updL, hj]⟩) (fun b hb => ⟨rfl, setL_n σ k x hb⟩) hd (kk _)
theorem s_putS {own C : String} {idx ci k a j : Nat} {K : St → Option ρ} (hF : FL own idx ci k false (.object C)) (hown : μ.1.cls = own) (hm : a ∈ E.2.2.2.1) (hkd : kd a = ci) (hft : ft a k = some 3) (hrr : E.2.2.2.2 a k = true) (hj : j < 3) (hd : decode μ.2.1 pc = .ok (.putfield idx, 3)) (kk : ∀ σ1, Sim Q Γ Ξ E μ σ1 (pc + 3) lv st (K σ1)) : Sim Q Γ Ξ E μ σ pc lv (rV E (32 + 2 * j) :: rV E a :: st) (bd (setI σ a k (nI j)) K) :=
  s_put (σ1 := setI σ a k (nI j)) hF hown hm hkd hft rfl rfl (by simp only [fv, hrr]; rw [setI_s]; simp only [upd, if_true]; rw [nI_clamp (by omega)]; rfl) (fun j hj => ⟨by rw [setI_s]; simp [upd, hj], rfl⟩) (fun b hb => ⟨setI_n σ k _ hb, rfl⟩) hd (kk _)
/-- arrays -/
theorem s_iald {a n : Nat} {i : Int32} (hm : a ∈ E.2.2.2.1) (hkd : kd a = 11) (hn : ln a = n) (hd : decode μ.2.1 pc = .ok (.iaload, 1)) (kk : Sim Q Γ Ξ E μ σ (pc + 1) lv (.int (σ.1 a i.toNatClampNeg) :: st) o) : Sim Q Γ Ξ E μ σ pc lv (.int i :: rV E a :: st) (ck i n o) := by
  subst hn
  intro Cc r ho ls H locs hl hP hS
  obtain ⟨hi, ho2⟩ := ck_in ho
  obtain ⟨hx, hb, hml, hr, hown', hts, hlocks, hK, ⟨hE, hA, hcc, hcs⟩, hKs⟩ := id Cc
  obtain ⟨q0, hq0, hq⟩ := ws_get σ hm
  rw [cont_i E σ hkd] at hq
  exact va_iald hx hb hK hP q0 0 hq rfl hi hd (kk Cc r ho2 ls H locs hl hP hS)
theorem s_zald {a n : Nat} {i : Int32} (hm : a ∈ E.2.2.2.1) (hkd : kd a = 13) (hn : ln a = n) (hd : decode μ.2.1 pc = .ok (.baload, 1)) (kk : Sim Q Γ Ξ E μ σ (pc + 1) lv (.int (σ.1 a i.toNatClampNeg) :: st) o) : Sim Q Γ Ξ E μ σ pc lv (.int i :: rV E a :: st) (ck i n o) := by
  subst hn
  intro Cc r ho ls H locs hl hP hS
  obtain ⟨hi, ho2⟩ := ck_in ho
  obtain ⟨hx, hb, hml, hr, hown', hts, hlocks, hK, ⟨hE, hA, hcc, hcs⟩, hKs⟩ := id Cc
  obtain ⟨q0, hq0, hq⟩ := ws_get σ hm
  rw [cont_z E σ hkd] at hq
  exact va_zald hx hb hK hP q0 2 hq rfl hi hd (kk Cc r ho2 ls H locs hl hP hS)
theorem s_lald {a n : Nat} {i : Int32} (hm : a ∈ E.2.2.2.1) (hkd : kd a = 12) (hn : ln a = n) (hd : decode μ.2.1 pc = .ok (.laload, 1)) (kk : Sim Q Γ Ξ E μ σ (pc + 1) lv (.long (σ.2 a i.toNatClampNeg) :: st) o) : Sim Q Γ Ξ E μ σ pc lv (.int i :: rV E a :: st) (ck i n o) := by
  subst hn
  intro Cc r ho ls H locs hl hP hS
  obtain ⟨hi, ho2⟩ := ck_in ho
  obtain ⟨hx, hb, hml, hr, hown', hts, hlocks, hK, ⟨hE, hA, hcc, hcs⟩, hKs⟩ := id Cc
  obtain ⟨q0, hq0, hq⟩ := ws_get σ hm
  rw [cont_l E σ hkd] at hq
  exact va_lald hx hb hK hP q0 1 hq rfl hi hd (kk Cc r ho2 ls H locs hl hP hS)
theorem s_iast {a n : Nat} {i x : Int32} {K : St → Option ρ} (hm : a ∈ E.2.2.2.1) (hkd : kd a = 11) (hn : ln a = n) (hd : decode μ.2.1 pc = .ok (.iastore, 1)) (kk : ∀ σ1, Sim Q Γ Ξ E μ σ1 (pc + 1) lv st (K σ1)) : Sim Q Γ Ξ E μ σ pc lv (.int x :: .int i :: rV E a :: st) (ck i n (bd (setI σ a i.toNatClampNeg x) K)) := by
  subst hn
  intro Cc r ho ls H locs hl hP hS
  obtain ⟨hi, ho2⟩ := ck_in ho
  obtain ⟨hx, hb, hml, hr, hown', hts, hlocks, hK, ⟨hE, hA, hcc, hcs⟩, hKs⟩ := id Cc
  obtain ⟨q0, hq0, hq⟩ := ws_get σ hm
  rw [cont_i E σ hkd] at hq
  refine va_iast hx hb hK hP (ws_D hE hA σ) hS q0 0 hq rfl hi hd (fun H1 locs1 hP1 _ hS1 => ?_)
  refine kk _ Cc r ho2 ls H1 locs1 hl ?_ hS1
  rw [← setI_s, ← cont_i E (setI σ a i.toNatClampNeg x) hkd, ws_set hE hq0 (fun b hb => cont_cg E (setI_n σ _ _ hb) rfl)] at hP1
  exact hP1
theorem s_zast {a n : Nat} {i x : Int32} {K : St → Option ρ} (hm : a ∈ E.2.2.2.1) (hkd : kd a = 13) (hn : ln a = n) (hz : x = 0 ∨ x = 1) (hd : decode μ.2.1 pc = .ok (.bastore, 1)) (kk : ∀ σ1, Sim Q Γ Ξ E μ σ1 (pc + 1) lv st (K σ1)) : Sim Q Γ Ξ E μ σ pc lv (.int x :: .int i :: rV E a :: st) (ck i n (bd (setI σ a i.toNatClampNeg x) K)) := by
  subst hn
  intro Cc r ho ls H locs hl hP hS
  obtain ⟨hi, ho2⟩ := ck_in ho
  obtain ⟨hx, hb, hml, hr, hown', hts, hlocks, hK, ⟨hE, hA, hcc, hcs⟩, hKs⟩ := id Cc
  obtain ⟨q0, hq0, hq⟩ := ws_get σ hm
  rw [cont_z E σ hkd] at hq
  refine va_zast hx hb hK hP (ws_D hE hA σ) hS q0 2 hq rfl hi hd (fun H1 locs1 hP1 _ hS1 => ?_)
  refine kk _ Cc r ho2 ls H1 locs1 hl ?_ hS1
  rw [show vp_nar .boolean x = x by rcases hz with rfl | rfl <;> rfl, ← setI_s, ← cont_z E (setI σ a i.toNatClampNeg x) hkd, ws_set hE hq0 (fun b hb => cont_cg E (setI_n σ _ _ hb) rfl)] at hP1
  exact hP1
theorem s_last {a n : Nat} {i : Int32} {x : Int64} {K : St → Option ρ} (hm : a ∈ E.2.2.2.1) (hkd : kd a = 12) (hn : ln a = n) (hd : decode μ.2.1 pc = .ok (.lastore, 1)) (kk : ∀ σ1, Sim Q Γ Ξ E μ σ1 (pc + 1) lv st (K σ1)) : Sim Q Γ Ξ E μ σ pc lv (.long x :: .int i :: rV E a :: st) (ck i n (bd (setL σ a i.toNatClampNeg x) K)) := by
  subst hn
  intro Cc r ho ls H locs hl hP hS
  obtain ⟨hi, ho2⟩ := ck_in ho
  obtain ⟨hx, hb, hml, hr, hown', hts, hlocks, hK, ⟨hE, hA, hcc, hcs⟩, hKs⟩ := id Cc
  obtain ⟨q0, hq0, hq⟩ := ws_get σ hm
  rw [cont_l E σ hkd] at hq
  refine va_last hx hb hK hP (ws_D hE hA σ) hS q0 1 hq rfl hi hd (fun H1 locs1 hP1 _ hS1 => ?_)
  refine kk _ Cc r ho2 ls H1 locs1 hl ?_ hS1
  rw [← setL_s, ← cont_l E (setL σ a i.toNatClampNeg x) hkd, ws_set (σ := σ) (σ' := setL σ a i.toNatClampNeg x) hE hq0 (fun b hb => cont_cg E rfl (setL_n σ _ _ hb))] at hP1
  exact hP1
theorem s_aald {a n c : Nat} {i : Int32} {K : Nat → Option ρ} {C : String} (hm : a ∈ E.2.2.2.1) (hkd : kd a = c) (hc : 14 ≤ c) (t0 : Nat) (ht : (tys E)[t0]? = some (E.2.1 c, .object C)) (hn : ln a = n) (hrr : ∀ j, j < n → E.2.2.2.2 a j = true) (hd : decode μ.2.1 pc = .ok (.aaload, 1)) (kk : ∀ j, j < n → Sim Q Γ Ξ E μ σ (pc + 1) lv (rV E (rf a j) :: st) (K j)) : Sim Q Γ Ξ E μ σ pc lv (.int i :: rV E a :: st) (ck i n (bd i.toNatClampNeg K)) := by
  subst hn
  intro Cc r ho ls H locs hl hP hS
  obtain ⟨hi, ho2⟩ := ck_in ho
  obtain ⟨hx, hb, hml, hr, hown', hts, hlocks, hK, ⟨hE, hA, hcc, hcs⟩, hKs⟩ := id Cc
  obtain ⟨q0, hq0, hq⟩ := ws_get σ hm
  rw [cont_q E σ hkd hc] at hq
  have hj : i.toNatClampNeg < ln a := Nat.not_le.mp fun q => hi (Or.inr q)
  refine va_aldq hx hb hK hP q0 t0 hq ht hi hd ?_
  rw [hrr _ hj]
  exact kk _ hj Cc r ho2 ls H locs hl hP hS
theorem s_alen {a c : Nat} {n : Int32} (hm : a ∈ E.2.2.2.1) (hkd : kd a = c) (hc : 11 ≤ c) (hc2 : c ≤ 16) (hn : Int32.ofNat (ln a) = n) (hd : decode μ.2.1 pc = .ok (.arraylength, 1)) (kk : Sim Q Γ Ξ E μ σ (pc + 1) lv (.int n :: st) o) : Sim Q Γ Ξ E μ σ pc lv (rV E a :: st) o := by
  intro Cc r ho ls H locs hl hP hS
  obtain ⟨hx, hb, hml, hr, hown', hts, hlocks, hK, ⟨hE, hA, hcc, hcs⟩, hKs⟩ := id Cc
  obtain ⟨q0, hq0, hq⟩ := ws_get σ hm
  have hk := kk Cc r ho ls H locs hl hP hS
  rcases (show c = 11 ∨ c = 12 ∨ c = 13 ∨ c = 14 ∨ c = 15 ∨ c = 16 by omega) with e | e | e | e | e | e <;> subst e
  · rw [cont_i E σ hkd] at hq; exact va_alen hx hb hK hP q0 0 hq rfl hn hd hk
  · rw [cont_l E σ hkd] at hq; exact va_alen hx hb hK hP q0 1 hq rfl hn hd hk
  · rw [cont_z E σ hkd] at hq; exact va_alen hx hb hK hP q0 2 hq rfl hn hd hk
  · rw [cont_q E σ hkd (by omega)] at hq; exact va_alen hx hb hK hP q0 3 hq rfl hn hd hk
  · rw [cont_q E σ hkd (by omega)] at hq; exact va_alen hx hb hK hP q0 4 hq rfl hn hd hk
  · rw [cont_q E σ hkd (by omega)] at hq; exact va_alen hx hb hK hP q0 5 hq rfl hn hd hk
/-- ends -/
theorem s_ireturn {en : ρ → Option Value} {fs : ρ → St} {x : Int32} {y : ρ} (hr : μ.2.2.2.1 = some .int) (he : en y = some (.int x)) (hf : fs y = σ) (hd : decode μ.2.1 pc = .ok (.ireturn, 1)) : Sim (qM en fs Γ E) Γ (x0 E) E μ σ pc lv [.int x] (some y) := by
  intro Cc r ho ls H locs hl hP hS
  cases ho
  obtain ⟨hx, hb, hml, hr', hown', hts, hlocks, hK, ⟨hE, hA, hcc, hcs⟩, hKs⟩ := id Cc
  exact W.iret hx hb (hr'.trans hr) (fun t ht hW => ⟨⟨by rw [he], by rw [ht, hf]; exact hP⟩, hS.F ht⟩) hS.2.2 hd hlocks
theorem s_zreturn {en : ρ → Option Value} {fs : ρ → St} {x : Int32} {y : ρ} (hr : μ.2.2.2.1 = some .boolean) (hz : x = 0 ∨ x = 1) (he : en y = some (.int x)) (hf : fs y = σ) (hd : decode μ.2.1 pc = .ok (.ireturn, 1)) : Sim (qM en fs Γ E) Γ (x0 E) E μ σ pc lv [.int x] (some y) := by
  intro Cc r ho ls H locs hl hP hS
  cases ho
  obtain ⟨hx, hb, hml, hr', hown', hts, hlocks, hK, ⟨hE, hA, hcc, hcs⟩, hKs⟩ := id Cc
  exact W.zret hx hb (hr'.trans hr) (by rcases hz with rfl | rfl <;> rfl) (fun t ht hW => ⟨⟨by rw [he], by rw [ht, hf]; exact hP⟩, hS.F ht⟩) hS.2.2 hd hlocks
theorem s_lreturn {en : ρ → Option Value} {fs : ρ → St} {x : Int64} {y : ρ} (hr : μ.2.2.2.1 = some .long) (he : en y = some (.long x)) (hf : fs y = σ) (hd : decode μ.2.1 pc = .ok (.lreturn, 1)) : Sim (qM en fs Γ E) Γ (x0 E) E μ σ pc lv [.long x] (some y) := by
  intro Cc r ho ls H locs hl hP hS
  cases ho
  obtain ⟨hx, hb, hml, hr', hown', hts, hlocks, hK, ⟨hE, hA, hcc, hcs⟩, hKs⟩ := id Cc
  exact W.lret hx hb (hr'.trans hr) (fun t ht hW => ⟨⟨by rw [he], by rw [ht, hf]; exact hP⟩, hS.F ht⟩) hS.2.2 hd hlocks
theorem s_return {en : ρ → Option Value} {fs : ρ → St} {y : ρ} (hr : μ.2.2.2.1 = none) (he : en y = none) (hf : fs y = σ) (hd : decode μ.2.1 pc = .ok (.return_, 1)) : Sim (qM en fs Γ E) Γ (x0 E) E μ σ pc lv [] (some y) := by
  intro Cc r ho ls H locs hl hP hS
  cases ho
  obtain ⟨hx, hb, hml, hr', hown', hts, hlocks, hK, ⟨hE, hA, hcc, hcs⟩, hKs⟩ := id Cc
  exact W.vret hx hb (hr'.trans hr) (fun t ht hW => ⟨⟨by rw [he], by rw [ht, hf]; exact hP⟩, hS.F ht⟩) hS.2.2 hd hlocks
theorem s_areturn {en : ρ → Option Value} {fs : ρ → St} {a : Nat} {C : String} {y : ρ} (hr : μ.2.2.2.1 = some (.object C)) (he : en y = some (rV E a)) (hf : fs y = σ) (hd : decode μ.2.1 pc = .ok (.areturn, 1)) : Sim (qM en fs Γ E) Γ (x0 E) E μ σ pc lv [rV E a] (some y) := by
  intro Cc r ho ls H locs hl hP hS
  cases ho
  obtain ⟨hx, hb, hml, hr', hown', hts, hlocks, hK, ⟨hE, hA, hcc, hcs⟩, hKs⟩ := id Cc
  exact W.aret hx hb (hr'.trans hr) (Or.inl ⟨_, rfl⟩) (Or.inr ⟨_, rfl⟩) (fun t ht hW => ⟨⟨by rw [he], by rw [ht, hf]; exact hP⟩, hS.F ht⟩) hS.2.2 hd hlocks
/-- fewer locals, in another order -/
theorem s_sub {lv' : List (Nat × Value)} (ks : List Nat) (h : lv_pick lv ks = lv') (k : Sim Q Γ Ξ E μ σ pc lv' st o) : Sim Q Γ Ξ E μ σ pc lv st o :=
  fun C r ho ls H locs hl hP hS => k C r ho ls H locs (lv_sub hl ks h) hP hS
theorem s_eq {o' : Option ρ} (h : o = o') (k : Sim Q Γ Ξ E μ σ pc lv st o') : Sim Q Γ Ξ E μ σ pc lv st o := h ▸ k
theorem s_ckN {i n : Nat} (k : i < n → Sim Q Γ Ξ E μ σ pc lv st o) : Sim Q Γ Ξ E μ σ pc lv st (ckN i n o) := fun C r ho => k (ckN_in ho).1 C r (ckN_in ho).2
theorem s_ckZ {x : Int32} (k : (x = 0 ∨ x = 1) → Sim Q Γ Ξ E μ σ pc lv st o) : Sim Q Γ Ξ E μ σ pc lv st (ckZ x o) := fun C r ho => k (ckZ_in ho).1 C r (ckZ_in ho).2
/-- one value from several roads: e is told as the roads tell it -/
theorem s_bd {A : Type} {e : A} {K : A → Option ρ} (pj : Nat) (lvf : A → List (Nat × Value)) (stf : A → List Value) (B : (A → Option ρ) → Option ρ) (hB : ∀ k, k e = B k) (hK : ∀ a, Sim Q Γ Ξ E μ σ pj (lvf a) (stf a) (K a)) (h : ∀ k, (∀ a, Sim Q Γ Ξ E μ σ pj (lvf a) (stf a) (k a)) → Sim Q Γ Ξ E μ σ pc lv st (B k)) : Sim Q Γ Ξ E μ σ pc lv st (bd e K) :=
  s_eq (hB K) (h K hK)
theorem s_jn0 {B : Option ρ → Option ρ} {K : Option ρ} (σj : St) (pj : Nat) (lvj : List (Nat × Value)) (stj : List Value) (hK : Sim Q Γ Ξ E μ σj pj lvj stj K) (h : ∀ k, Sim Q Γ Ξ E μ σj pj lvj stj k → Sim Q Γ Ξ E μ σ pc lv st (B k)) : Sim Q Γ Ξ E μ σ pc lv st (jn0 B K) := h K hK
theorem s_jn1 {A0 : Type} {B : (A0 → Option ρ) → Option ρ} {K : A0 → Option ρ} (pj : Nat) (σf : A0 → St) (lvf : A0 → List (Nat × Value)) (stf : A0 → List Value) (hK : ∀ a0, Sim Q Γ Ξ E μ (σf a0) pj (lvf a0) (stf a0) (K a0)) (h : ∀ k, (∀ a0, Sim Q Γ Ξ E μ (σf a0) pj (lvf a0) (stf a0) (k a0)) → Sim Q Γ Ξ E μ σ pc lv st (B k)) : Sim Q Γ Ξ E μ σ pc lv st (jn1 B K) := h K hK
theorem s_jn2 {A0 A1 : Type} {B : (A0 → A1 → Option ρ) → Option ρ} {K : A0 → A1 → Option ρ} (pj : Nat) (σf : A0 → A1 → St) (lvf : A0 → A1 → List (Nat × Value)) (stf : A0 → A1 → List Value) (hK : ∀ a0 a1, Sim Q Γ Ξ E μ (σf a0 a1) pj (lvf a0 a1) (stf a0 a1) (K a0 a1)) (h : ∀ k, (∀ a0 a1, Sim Q Γ Ξ E μ (σf a0 a1) pj (lvf a0 a1) (stf a0 a1) (k a0 a1)) → Sim Q Γ Ξ E μ σ pc lv st (B k)) : Sim Q Γ Ξ E μ σ pc lv st (jn2 B K) := h K hK
theorem s_jn3 {A0 A1 A2 : Type} {B : (A0 → A1 → A2 → Option ρ) → Option ρ} {K : A0 → A1 → A2 → Option ρ} (pj : Nat) (σf : A0 → A1 → A2 → St) (lvf : A0 → A1 → A2 → List (Nat × Value)) (stf : A0 → A1 → A2 → List Value) (hK : ∀ a0 a1 a2, Sim Q Γ Ξ E μ (σf a0 a1 a2) pj (lvf a0 a1 a2) (stf a0 a1 a2) (K a0 a1 a2)) (h : ∀ k, (∀ a0 a1 a2, Sim Q Γ Ξ E μ (σf a0 a1 a2) pj (lvf a0 a1 a2) (stf a0 a1 a2) (k a0 a1 a2)) → Sim Q Γ Ξ E μ σ pc lv st (B k)) : Sim Q Γ Ξ E μ σ pc lv st (jn3 B K) := h K hK
theorem s_jn4 {A0 A1 A2 A3 : Type} {B : (A0 → A1 → A2 → A3 → Option ρ) → Option ρ} {K : A0 → A1 → A2 → A3 → Option ρ} (pj : Nat) (σf : A0 → A1 → A2 → A3 → St) (lvf : A0 → A1 → A2 → A3 → List (Nat × Value)) (stf : A0 → A1 → A2 → A3 → List Value) (hK : ∀ a0 a1 a2 a3, Sim Q Γ Ξ E μ (σf a0 a1 a2 a3) pj (lvf a0 a1 a2 a3) (stf a0 a1 a2 a3) (K a0 a1 a2 a3)) (h : ∀ k, (∀ a0 a1 a2 a3, Sim Q Γ Ξ E μ (σf a0 a1 a2 a3) pj (lvf a0 a1 a2 a3) (stf a0 a1 a2 a3) (k a0 a1 a2 a3)) → Sim Q Γ Ξ E μ σ pc lv st (B k)) : Sim Q Γ Ξ E μ σ pc lv st (jn4 B K) := h K hK
theorem s_jn5 {A0 A1 A2 A3 A4 : Type} {B : (A0 → A1 → A2 → A3 → A4 → Option ρ) → Option ρ} {K : A0 → A1 → A2 → A3 → A4 → Option ρ} (pj : Nat) (σf : A0 → A1 → A2 → A3 → A4 → St) (lvf : A0 → A1 → A2 → A3 → A4 → List (Nat × Value)) (stf : A0 → A1 → A2 → A3 → A4 → List Value) (hK : ∀ a0 a1 a2 a3 a4, Sim Q Γ Ξ E μ (σf a0 a1 a2 a3 a4) pj (lvf a0 a1 a2 a3 a4) (stf a0 a1 a2 a3 a4) (K a0 a1 a2 a3 a4)) (h : ∀ k, (∀ a0 a1 a2 a3 a4, Sim Q Γ Ξ E μ (σf a0 a1 a2 a3 a4) pj (lvf a0 a1 a2 a3 a4) (stf a0 a1 a2 a3 a4) (k a0 a1 a2 a3 a4)) → Sim Q Γ Ξ E μ σ pc lv st (B k)) : Sim Q Γ Ξ E μ σ pc lv st (jn5 B K) := h K hK
theorem s_lo1 {A0 : Type} {F : (A0 → Option ρ) → A0 → Option ρ} {N : Nat} {b0 : A0} (σf : A0 → St) (lvf : A0 → List (Nat × Value)) (h : ∀ rec, (∀ a0, Sim Q Γ Ξ E μ (σf a0) pc (lvf a0) [] (rec a0)) → ∀ a0, Sim Q Γ Ξ E μ (σf a0) pc (lvf a0) [] (F rec a0)) : Sim Q Γ Ξ E μ (σf b0) pc (lvf b0) [] (lo1 N F b0) := by
  have key : ∀ N a0, Sim Q Γ Ξ E μ (σf a0) pc (lvf a0) [] (lo1 N F a0) := by
    intro N
    induction N with
    | zero => intro a0 C r ho; cases ho
    | succ N ih => intro a0; exact h (lo1 N F) ih a0
  exact key N b0
theorem s_lo2 {A0 A1 : Type} {F : (A0 → A1 → Option ρ) → A0 → A1 → Option ρ} {N : Nat} {b0 : A0} {b1 : A1} (σf : A0 → A1 → St) (lvf : A0 → A1 → List (Nat × Value)) (h : ∀ rec, (∀ a0 a1, Sim Q Γ Ξ E μ (σf a0 a1) pc (lvf a0 a1) [] (rec a0 a1)) → ∀ a0 a1, Sim Q Γ Ξ E μ (σf a0 a1) pc (lvf a0 a1) [] (F rec a0 a1)) : Sim Q Γ Ξ E μ (σf b0 b1) pc (lvf b0 b1) [] (lo2 N F b0 b1) := by
  have key : ∀ N a0 a1, Sim Q Γ Ξ E μ (σf a0 a1) pc (lvf a0 a1) [] (lo2 N F a0 a1) := by
    intro N
    induction N with
    | zero => intro a0 a1 C r ho; cases ho
    | succ N ih => intro a0 a1; exact h (lo2 N F) ih a0 a1
  exact key N b0 b1
theorem s_lo3 {A0 A1 A2 : Type} {F : (A0 → A1 → A2 → Option ρ) → A0 → A1 → A2 → Option ρ} {N : Nat} {b0 : A0} {b1 : A1} {b2 : A2} (σf : A0 → A1 → A2 → St) (lvf : A0 → A1 → A2 → List (Nat × Value)) (h : ∀ rec, (∀ a0 a1 a2, Sim Q Γ Ξ E μ (σf a0 a1 a2) pc (lvf a0 a1 a2) [] (rec a0 a1 a2)) → ∀ a0 a1 a2, Sim Q Γ Ξ E μ (σf a0 a1 a2) pc (lvf a0 a1 a2) [] (F rec a0 a1 a2)) : Sim Q Γ Ξ E μ (σf b0 b1 b2) pc (lvf b0 b1 b2) [] (lo3 N F b0 b1 b2) := by
  have key : ∀ N a0 a1 a2, Sim Q Γ Ξ E μ (σf a0 a1 a2) pc (lvf a0 a1 a2) [] (lo3 N F a0 a1 a2) := by
    intro N
    induction N with
    | zero => intro a0 a1 a2 C r ho; cases ho
    | succ N ih => intro a0 a1 a2; exact h (lo3 N F) ih a0 a1 a2
  exact key N b0 b1 b2
theorem s_lo4 {A0 A1 A2 A3 : Type} {F : (A0 → A1 → A2 → A3 → Option ρ) → A0 → A1 → A2 → A3 → Option ρ} {N : Nat} {b0 : A0} {b1 : A1} {b2 : A2} {b3 : A3} (σf : A0 → A1 → A2 → A3 → St) (lvf : A0 → A1 → A2 → A3 → List (Nat × Value)) (h : ∀ rec, (∀ a0 a1 a2 a3, Sim Q Γ Ξ E μ (σf a0 a1 a2 a3) pc (lvf a0 a1 a2 a3) [] (rec a0 a1 a2 a3)) → ∀ a0 a1 a2 a3, Sim Q Γ Ξ E μ (σf a0 a1 a2 a3) pc (lvf a0 a1 a2 a3) [] (F rec a0 a1 a2 a3)) : Sim Q Γ Ξ E μ (σf b0 b1 b2 b3) pc (lvf b0 b1 b2 b3) [] (lo4 N F b0 b1 b2 b3) := by
  have key : ∀ N a0 a1 a2 a3, Sim Q Γ Ξ E μ (σf a0 a1 a2 a3) pc (lvf a0 a1 a2 a3) [] (lo4 N F a0 a1 a2 a3) := by
    intro N
    induction N with
    | zero => intro a0 a1 a2 a3 C r ho; cases ho
    | succ N ih => intro a0 a1 a2 a3; exact h (lo4 N F) ih a0 a1 a2 a3
  exact key N b0 b1 b2 b3
theorem s_lo5 {A0 A1 A2 A3 A4 : Type} {F : (A0 → A1 → A2 → A3 → A4 → Option ρ) → A0 → A1 → A2 → A3 → A4 → Option ρ} {N : Nat} {b0 : A0} {b1 : A1} {b2 : A2} {b3 : A3} {b4 : A4} (σf : A0 → A1 → A2 → A3 → A4 → St) (lvf : A0 → A1 → A2 → A3 → A4 → List (Nat × Value)) (h : ∀ rec, (∀ a0 a1 a2 a3 a4, Sim Q Γ Ξ E μ (σf a0 a1 a2 a3 a4) pc (lvf a0 a1 a2 a3 a4) [] (rec a0 a1 a2 a3 a4)) → ∀ a0 a1 a2 a3 a4, Sim Q Γ Ξ E μ (σf a0 a1 a2 a3 a4) pc (lvf a0 a1 a2 a3 a4) [] (F rec a0 a1 a2 a3 a4)) : Sim Q Γ Ξ E μ (σf b0 b1 b2 b3 b4) pc (lvf b0 b1 b2 b3 b4) [] (lo5 N F b0 b1 b2 b3 b4) := by
  have key : ∀ N a0 a1 a2 a3 a4, Sim Q Γ Ξ E μ (σf a0 a1 a2 a3 a4) pc (lvf a0 a1 a2 a3 a4) [] (lo5 N F a0 a1 a2 a3 a4) := by
    intro N
    induction N with
    | zero => intro a0 a1 a2 a3 a4 C r ho; cases ho
    | succ N ih => intro a0 a1 a2 a3 a4; exact h (lo5 N F) ih a0 a1 a2 a3 a4
  exact key N b0 b1 b2 b3 b4
theorem s_lo6 {A0 A1 A2 A3 A4 A5 : Type} {F : (A0 → A1 → A2 → A3 → A4 → A5 → Option ρ) → A0 → A1 → A2 → A3 → A4 → A5 → Option ρ} {N : Nat} {b0 : A0} {b1 : A1} {b2 : A2} {b3 : A3} {b4 : A4} {b5 : A5} (σf : A0 → A1 → A2 → A3 → A4 → A5 → St) (lvf : A0 → A1 → A2 → A3 → A4 → A5 → List (Nat × Value)) (h : ∀ rec, (∀ a0 a1 a2 a3 a4 a5, Sim Q Γ Ξ E μ (σf a0 a1 a2 a3 a4 a5) pc (lvf a0 a1 a2 a3 a4 a5) [] (rec a0 a1 a2 a3 a4 a5)) → ∀ a0 a1 a2 a3 a4 a5, Sim Q Γ Ξ E μ (σf a0 a1 a2 a3 a4 a5) pc (lvf a0 a1 a2 a3 a4 a5) [] (F rec a0 a1 a2 a3 a4 a5)) : Sim Q Γ Ξ E μ (σf b0 b1 b2 b3 b4 b5) pc (lvf b0 b1 b2 b3 b4 b5) [] (lo6 N F b0 b1 b2 b3 b4 b5) := by
  have key : ∀ N a0 a1 a2 a3 a4 a5, Sim Q Γ Ξ E μ (σf a0 a1 a2 a3 a4 a5) pc (lvf a0 a1 a2 a3 a4 a5) [] (lo6 N F a0 a1 a2 a3 a4 a5) := by
    intro N
    induction N with
    | zero => intro a0 a1 a2 a3 a4 a5 C r ho; cases ho
    | succ N ih => intro a0 a1 a2 a3 a4 a5; exact h (lo6 N F) ih a0 a1 a2 a3 a4 a5
  exact key N b0 b1 b2 b3 b4 b5
theorem s_lo7 {A0 A1 A2 A3 A4 A5 A6 : Type} {F : (A0 → A1 → A2 → A3 → A4 → A5 → A6 → Option ρ) → A0 → A1 → A2 → A3 → A4 → A5 → A6 → Option ρ} {N : Nat} {b0 : A0} {b1 : A1} {b2 : A2} {b3 : A3} {b4 : A4} {b5 : A5} {b6 : A6} (σf : A0 → A1 → A2 → A3 → A4 → A5 → A6 → St) (lvf : A0 → A1 → A2 → A3 → A4 → A5 → A6 → List (Nat × Value)) (h : ∀ rec, (∀ a0 a1 a2 a3 a4 a5 a6, Sim Q Γ Ξ E μ (σf a0 a1 a2 a3 a4 a5 a6) pc (lvf a0 a1 a2 a3 a4 a5 a6) [] (rec a0 a1 a2 a3 a4 a5 a6)) → ∀ a0 a1 a2 a3 a4 a5 a6, Sim Q Γ Ξ E μ (σf a0 a1 a2 a3 a4 a5 a6) pc (lvf a0 a1 a2 a3 a4 a5 a6) [] (F rec a0 a1 a2 a3 a4 a5 a6)) : Sim Q Γ Ξ E μ (σf b0 b1 b2 b3 b4 b5 b6) pc (lvf b0 b1 b2 b3 b4 b5 b6) [] (lo7 N F b0 b1 b2 b3 b4 b5 b6) := by
  have key : ∀ N a0 a1 a2 a3 a4 a5 a6, Sim Q Γ Ξ E μ (σf a0 a1 a2 a3 a4 a5 a6) pc (lvf a0 a1 a2 a3 a4 a5 a6) [] (lo7 N F a0 a1 a2 a3 a4 a5 a6) := by
    intro N
    induction N with
    | zero => intro a0 a1 a2 a3 a4 a5 a6 C r ho; cases ho
    | succ N ih => intro a0 a1 a2 a3 a4 a5 a6; exact h (lo7 N F) ih a0 a1 a2 a3 a4 a5 a6
  exact key N b0 b1 b2 b3 b4 b5 b6
theorem s_lo8 {A0 A1 A2 A3 A4 A5 A6 A7 : Type} {F : (A0 → A1 → A2 → A3 → A4 → A5 → A6 → A7 → Option ρ) → A0 → A1 → A2 → A3 → A4 → A5 → A6 → A7 → Option ρ} {N : Nat} {b0 : A0} {b1 : A1} {b2 : A2} {b3 : A3} {b4 : A4} {b5 : A5} {b6 : A6} {b7 : A7} (σf : A0 → A1 → A2 → A3 → A4 → A5 → A6 → A7 → St) (lvf : A0 → A1 → A2 → A3 → A4 → A5 → A6 → A7 → List (Nat × Value)) (h : ∀ rec, (∀ a0 a1 a2 a3 a4 a5 a6 a7, Sim Q Γ Ξ E μ (σf a0 a1 a2 a3 a4 a5 a6 a7) pc (lvf a0 a1 a2 a3 a4 a5 a6 a7) [] (rec a0 a1 a2 a3 a4 a5 a6 a7)) → ∀ a0 a1 a2 a3 a4 a5 a6 a7, Sim Q Γ Ξ E μ (σf a0 a1 a2 a3 a4 a5 a6 a7) pc (lvf a0 a1 a2 a3 a4 a5 a6 a7) [] (F rec a0 a1 a2 a3 a4 a5 a6 a7)) : Sim Q Γ Ξ E μ (σf b0 b1 b2 b3 b4 b5 b6 b7) pc (lvf b0 b1 b2 b3 b4 b5 b6 b7) [] (lo8 N F b0 b1 b2 b3 b4 b5 b6 b7) := by
  have key : ∀ N a0 a1 a2 a3 a4 a5 a6 a7, Sim Q Γ Ξ E μ (σf a0 a1 a2 a3 a4 a5 a6 a7) pc (lvf a0 a1 a2 a3 a4 a5 a6 a7) [] (lo8 N F a0 a1 a2 a3 a4 a5 a6 a7) := by
    intro N
    induction N with
    | zero => intro a0 a1 a2 a3 a4 a5 a6 a7 C r ho; cases ho
    | succ N ih => intro a0 a1 a2 a3 a4 a5 a6 a7; exact h (lo8 N F) ih a0 a1 a2 a3 a4 a5 a6 a7
  exact key N b0 b1 b2 b3 b4 b5 b6 b7
end ROWS
/-- calls -/
theorem PcE_blind (E : Ev) (As : List Value) (σ : St) : FrameBlind (PcE E As σ) := fun a U g mk q => by
  obtain ⟨q0, qP, qK, qs⟩ := q
  exact ⟨q0, qP, va_K.moved (u := U) (U := U.calling g mk a) (Vm.Alike.refl U.vm) qK, Kt.same (u := U) (U := U.calling g mk a) rfl qs⟩
section CALLS
variable {p : Program} {l : Launch} {e : Env} {R : Room} {s : State} {m : MethodId} {args : Array Value} {below : List Frame} {meth : Method} {c : Code} {H : Heap} {locs : List Loc} {cells slots : Nat} {Q : State → Prop}
variable {pc : Nat} {ls : Array Slot} {rest st0 : List Value} {a : Array Value} {A0 : Nat → Prop} {H0 : Heap} {E : Ev} {rv : Option Value} {σ' : St}
theorem sv_call (hr : va_Run p l e R s m args below meth c H locs cells slots 0 0 (F0 m pc ls st0) rest (Qm E rv σ' a) (AL E)) (hS : va_S A0 H0 H locs) (hA : ∀ q, AL E q → A0 q)
    (kk : ∀ (H1 : Heap) (locs1 : List Loc), va_P E.1 vwCl (WS E σ') H1 → H.size ≤ H1.size → (∀ q : Nat, q < H.size → ¬ AL E q → H1[q]? = H[q]?) → va_S A0 H0 H1 locs1 → W p l e R s m args below meth c H1 locs1 cells slots Q (F0 m (pc + 3) ls (rv.toList ++ rest))) : W p l e R s m args below meth c H locs cells slots Q (F0 m pc ls st0) := by
  intro T hT X
  obtain ⟨v, st₀, t, T', L, h0, X', hL, e1, e2, ⟨⟨hv, hb⟩, hz, hk⟩, st⟩ := hr T hT X
  cases hv
  rw [h0] at hz hk
  obtain ⟨t2, a1, b1⟩ := kk T'.heap (locs ++ L) (by rw [e1]; exact hb) (by rw [e1]; exact hz) (fun q h1 h2 => by rw [e1]; exact hk q h1 h2)
    ⟨Nat.le_trans hS.1 (by rw [e1]; exact hz), fun q h1 h2 => by rw [e1, hk q (Nat.lt_of_lt_of_le h1 hS.1) (fun z => h2 (hA q z))]; exact hS.2.1 q h1 h2, fun q hq => by
      rcases List.mem_append.mp hq with h | h
      · exact hS.2.2 q h
      · exact hA _ (hL q h)⟩ T' rfl X'
  exact ⟨t2, st t2 a1, b1⟩
end CALLS
/-- what a call needs to know of the method called -/
def MF (μ : Md) (np : Nat) : Prop := μ.1.cls ≠ "java/lang/invoke/MethodHandle" ∧ μ.1.cls ≠ "java/lang/invoke/VarHandle" ∧ (parseMethodDescriptor μ.1.desc).map (fun d => d.parameters.length) = some np ∧ Cond.code μ.1 μ.2.1 μ.2.2.1 μ.2.2.2.1 ∈ tT ∧ Cond.initialized μ.1.cls ∈ tT ∧ μ.2.2.2.2.cells = 0 ∧ μ.2.2.2.2.slots = 0
def VF (μ : Md) : Prop := Cond.instanceMethod μ.1 ∈ tT ∧ Cond.selects μ.1.cls μ.1 μ.1 ∈ tT
/-- room: the callee's beside the caller's -/
def rOk (R r : Room) (n : Nat) : Bool := (r.frames + 1).ble R.frames && (8 + (n + 11) + r.locals).ble R.locals
theorem rOk_1 {R r : Room} {n : Nat} (h : rOk R r n = true) : r.frames + 1 ≤ R.frames ∧ 8 + (n + 11) + r.locals ≤ R.locals := by
  unfold rOk at h
  rw [Bool.and_eq_true] at h
  exact ⟨Nat.le_of_ble_eq_true h.1, Nat.le_of_ble_eq_true h.2⟩
section CALLR
variable {ρ β : Type} {Q : ρ → State → Prop} {en' : β → Option Value} {fs' : β → St} {Γ : Gm} {Ξ : Gx} {E : Ev} {μ μ' : Md} {σ : St} {pc np idx b ci : Nat} {lv : List (Nat × Value)} {st As rest : List Value} {f : Option β} {K : β → Option ρ} {q : vw_C}
theorem ctr_words (hM : MF μ' np) : GoodIn tT (.code μ'.1 μ'.2.1 μ'.2.2.1 μ'.2.2.2.1 :: tT) := tG (fun w hw => by
  rcases List.mem_cons.mp hw with rfl | h
  · exact hM.2.2.2.1
  · exact h)
theorem s_callV0 (hM : MF μ' np) (hV : VF μ') (hL : Cond.methodLink μ.1.cls idx μ'.1 ∈ tT) (hC : Ctr Γ.2.1 en' fs' E μ' (rV E b :: As) σ f) (hm : b ∈ E.2.2.2.1) (hkd : kd b = ci) (hci : ci < 11) (hc : vwCl[ci]? = some q) (hq : q.1 = μ'.1.cls) (hn : As.length = np) (hst : st = As.reverse ++ rV E b :: rest) (hW : (rest.map fun v => v.category).sum ≤ 8) (hR : rOk μ.2.2.2.2 μ'.2.2.2.2 μ'.2.2.1 = true) (hd : decode μ.2.1 pc = .ok (.invokevirtual idx, 3))
    (kk : ∀ r, Sim Q Γ Ξ E μ (fs' r) (pc + 3) lv ((en' r).toList ++ rest) (K r)) : Sim Q Γ Ξ E μ σ pc lv st (calP f K) := by
  intro Cc r ho ls H locs hl hP hS
  obtain ⟨r1, hf, ho2⟩ := calP_in ho
  obtain ⟨hx, hb, hml, hr', hown', hts, hlocks, hK, ⟨hE, hA, hcc, hcs⟩, hKs⟩ := id Cc
  obtain ⟨q0, hq0, hqq⟩ := ws_get σ hm
  rw [cont_o E σ hkd hci] at hqq
  have hcw : CallW μ.2.2.2.2 Γ.2.2.2.1 Γ.2.2.2.2.2.1 μ.1.cls μ'.1.cls idx μ'.1 μ'.2.1 μ'.2.2.1 μ'.2.2.2.1 (.code μ'.1 μ'.2.1 μ'.2.2.1 μ'.2.2.2.1 :: tT) μ'.2.2.2.2 0 0 np :=
    ⟨callB_of np hts (ctr_words hM) rfl hM.2.2.2.2.2.1 hM.2.2.2.2.2.2 (hts _ hM.2.2.2.2.1) (hts _ hL) ⟨hM.1, hM.2.1, hM.2.2.1⟩ (rOk_1 hR), hts _ hV.1, hts _ hV.2⟩
  have hrec := va_recv hK hP hc hqq
  rw [hq] at hrec
  exact sv_call (va_runV (As := As) (rest := rest) (b := E.2.2.1 b) ⟨hx, hb, hml, hown', hts⟩ (hC hE r1 hf) hcw ⟨PcE_blind E _ σ, hrec, fun U hU hW => ⟨rfl, by rw [hU]; exact hP, va_K.moved hW.alike hK, by rw [hU]; exact ((Kt.kept hS.2.1 hKs).warm hW).narrow hA⟩⟩ rfl hn hl.1 hst (lv_room hW) hd ⟨hcc, hcs⟩) hS hA (fun H1 locs1 hP1 _ _ hS1 => kk r1 Cc r ho2 ls H1 locs1 hl hP1 hS1)
theorem s_callS0 (hM : MF μ' np) (hV : Cond.static μ'.1 ∈ tT) (hL : Cond.methodLink μ.1.cls idx μ'.1 ∈ tT) (hC : Ctr Γ.2.1 en' fs' E μ' As σ f) (hn : As.length = np) (hst : st = As.reverse ++ rest) (hW : (rest.map fun v => v.category).sum ≤ 8) (hR : rOk μ.2.2.2.2 μ'.2.2.2.2 μ'.2.2.1 = true) (hd : decode μ.2.1 pc = .ok (.invokestatic idx, 3))
    (kk : ∀ r, Sim Q Γ Ξ E μ (fs' r) (pc + 3) lv ((en' r).toList ++ rest) (K r)) : Sim Q Γ Ξ E μ σ pc lv st (calP f K) := by
  intro Cc r ho ls H locs hl hP hS
  obtain ⟨r1, hf, ho2⟩ := calP_in ho
  obtain ⟨hx, hb, hml, hr', hown', hts, hlocks, hK, ⟨hE, hA, hcc, hcs⟩, hKs⟩ := id Cc
  have hcw : CallB μ.2.2.2.2 Γ.2.2.2.1 Γ.2.2.2.2.2.1 μ.1.cls idx μ'.1 μ'.2.1 μ'.2.2.1 μ'.2.2.2.1 (.code μ'.1 μ'.2.1 μ'.2.2.1 μ'.2.2.2.1 :: tT) μ'.2.2.2.2 0 0 np :=
    callB_of np hts (ctr_words hM) rfl hM.2.2.2.2.2.1 hM.2.2.2.2.2.2 (hts _ hM.2.2.2.2.1) (hts _ hL) ⟨hM.1, hM.2.1, hM.2.2.1⟩ (rOk_1 hR)
  exact sv_call (va_runS (As := As) (rest := rest) ⟨hx, hb, hml, hown', hts⟩ (hC hE r1 hf) ⟨hcw, hts _ hV⟩ ⟨PcE_blind E _ σ, fun U hU hW => ⟨rfl, by rw [hU]; exact hP, va_K.moved hW.alike hK, by rw [hU]; exact ((Kt.kept hS.2.1 hKs).warm hW).narrow hA⟩⟩ rfl hn hl.1 hst (lv_room hW) hd ⟨hcc, hcs⟩) hS hA (fun H1 locs1 hP1 _ _ hS1 => kk r1 Cc r ho2 ls H1 locs1 hl hP1 hS1)
theorem s_callN0 {host : String} (hM : MF μ' np) (hV : Cond.static μ'.1 ∈ tT) (hL : Cond.methodLinkNest μ.1.cls idx μ'.1 host ∈ nestW) (hC : Ctr Γ.2.1 en' fs' E μ' As σ f) (hn : As.length = np) (hst : st = As.reverse ++ rest) (hW : (rest.map fun v => v.category).sum ≤ 8) (hR : rOk μ.2.2.2.2 μ'.2.2.2.2 μ'.2.2.1 = true) (hd : decode μ.2.1 pc = .ok (.invokestatic idx, 3))
    (kk : ∀ r, Sim Q Γ Ξ E μ (fs' r) (pc + 3) lv ((en' r).toList ++ rest) (K r)) : Sim Q Γ Ξ E μ σ pc lv st (calP f K) := by
  intro Cc r ho ls H locs hl hP hS
  obtain ⟨r1, hf, ho2⟩ := calP_in ho
  obtain ⟨hx, hb, hml, hr', hown', hts, hlocks, hK, ⟨hE, hA, hcc, hcs⟩, hKs⟩ := id Cc
  have hcw : va_CN μ.2.2.2.2 Γ.2.2.2.1 Γ.2.2.2.2.2.1 μ.1.cls idx μ'.1 host μ'.2.1 μ'.2.2.1 μ'.2.2.2.1 (.code μ'.1 μ'.2.1 μ'.2.2.1 μ'.2.2.2.1 :: tT) μ'.2.2.2.2 0 0 np :=
    va_cnB np hts (ctr_words hM) rfl hM.2.2.2.2.2.1 hM.2.2.2.2.2.2 (hKs.1 _ hL) (hts _ hM.2.2.2.2.1) ⟨hM.1, hM.2.1, hM.2.2.1⟩ (rOk_1 hR)
  exact sv_call (va_runSN (As := As) (rest := rest) ⟨hx, hb, hml, hown', hts⟩ (hC hE r1 hf) ⟨hcw, hts _ hV, trivial⟩ ⟨PcE_blind E _ σ, fun U hU hW => ⟨rfl, by rw [hU]; exact hP, va_K.moved hW.alike hK, by rw [hU]; exact ((Kt.kept hS.2.1 hKs).warm hW).narrow hA⟩⟩ rfl hn hl.1 hst (lv_room hW) hd ⟨hcc, hcs⟩) hS hA (fun H1 locs1 hP1 _ _ hS1 => kk r1 Cc r ho2 ls H1 locs1 hl hP1 hS1)
end CALLR
theorem maxS : Cond.static Lib.Math.max.name ∈ tT := tM 579 (by decide +kernel) rfl
theorem maxI : Cond.initialized "java/lang/Math" ∈ tT := tM 99 (by decide +kernel) rfl
theorem maxC : Cond.code Lib.Math.max.name Lib.Math.max.code 2 (some .int) ∈ tT := tM 580 (by decide +kernel) rfl
theorem minS : Cond.static Lib.Math.min.name ∈ tT := tM 439 (by decide +kernel) rfl
theorem minC : Cond.code Lib.Math.min.name Lib.Math.min.code 2 (some .int) ∈ tT := tM 440 (by decide +kernel) rfl
-- the same, by what comes back: p nothing is written, w the state comes too; I int, L long, V nothing, M, C an object by its number
section CALLK
variable {ρ : Type} {Q : ρ → State → Prop} {Γ : Gm} {Ξ : Gx} {E : Ev} {μ μ' : Md} {σ : St} {pc np idx b ci : Nat} {lv : List (Nat × Value)} {st As rest : List Value} {q : vw_C}
theorem s_callVpI {f : Option Int32} {K : Int32 → Option ρ} (hM : MF μ' np) (hV : VF μ') (hL : Cond.methodLink μ.1.cls idx μ'.1 ∈ tT) (hC : Ctr Γ.2.1 (enI) (fun _ => σ) E μ' (rV E b :: As) σ f) (hm : b ∈ E.2.2.2.1) (hkd : kd b = ci) (hci : ci < 11) (hc : vwCl[ci]? = some q) (hq : q.1 = μ'.1.cls) (hn : As.length = np) (hst : st = As.reverse ++ rV E b :: rest) (hW : (rest.map fun v => v.category).sum ≤ 8) (hR : rOk μ.2.2.2.2 μ'.2.2.2.2 μ'.2.2.1 = true) (hd : decode μ.2.1 pc = .ok (.invokevirtual idx, 3)) (kk : ∀ r, Sim Q Γ Ξ E μ σ (pc + 3) lv (.int r :: rest) (K r)) : Sim Q Γ Ξ E μ σ pc lv st (calP f K) := s_callV0 hM hV hL hC hm hkd hci hc hq hn hst hW hR hd kk
theorem s_callVwI {f : Option (Int32 × St)} {K : Int32 → St → Option ρ} (hM : MF μ' np) (hV : VF μ') (hL : Cond.methodLink μ.1.cls idx μ'.1 ∈ tT) (hC : Ctr Γ.2.1 (en2 (enI)) (fun q => q.2) E μ' (rV E b :: As) σ f) (hm : b ∈ E.2.2.2.1) (hkd : kd b = ci) (hci : ci < 11) (hc : vwCl[ci]? = some q) (hq : q.1 = μ'.1.cls) (hn : As.length = np) (hst : st = As.reverse ++ rV E b :: rest) (hW : (rest.map fun v => v.category).sum ≤ 8) (hR : rOk μ.2.2.2.2 μ'.2.2.2.2 μ'.2.2.1 = true) (hd : decode μ.2.1 pc = .ok (.invokevirtual idx, 3)) (kk : ∀ r σ1, Sim Q Γ Ξ E μ σ1 (pc + 3) lv (.int r :: rest) (K r σ1)) : Sim Q Γ Ξ E μ σ pc lv st (cal f K) := s_callV0 hM hV hL hC hm hkd hci hc hq hn hst hW hR hd (fun r => kk r.1 r.2)
theorem s_callVpL {f : Option Int64} {K : Int64 → Option ρ} (hM : MF μ' np) (hV : VF μ') (hL : Cond.methodLink μ.1.cls idx μ'.1 ∈ tT) (hC : Ctr Γ.2.1 (enL) (fun _ => σ) E μ' (rV E b :: As) σ f) (hm : b ∈ E.2.2.2.1) (hkd : kd b = ci) (hci : ci < 11) (hc : vwCl[ci]? = some q) (hq : q.1 = μ'.1.cls) (hn : As.length = np) (hst : st = As.reverse ++ rV E b :: rest) (hW : (rest.map fun v => v.category).sum ≤ 8) (hR : rOk μ.2.2.2.2 μ'.2.2.2.2 μ'.2.2.1 = true) (hd : decode μ.2.1 pc = .ok (.invokevirtual idx, 3)) (kk : ∀ r, Sim Q Γ Ξ E μ σ (pc + 3) lv (.long r :: rest) (K r)) : Sim Q Γ Ξ E μ σ pc lv st (calP f K) := s_callV0 hM hV hL hC hm hkd hci hc hq hn hst hW hR hd kk
theorem s_callVwL {f : Option (Int64 × St)} {K : Int64 → St → Option ρ} (hM : MF μ' np) (hV : VF μ') (hL : Cond.methodLink μ.1.cls idx μ'.1 ∈ tT) (hC : Ctr Γ.2.1 (en2 (enL)) (fun q => q.2) E μ' (rV E b :: As) σ f) (hm : b ∈ E.2.2.2.1) (hkd : kd b = ci) (hci : ci < 11) (hc : vwCl[ci]? = some q) (hq : q.1 = μ'.1.cls) (hn : As.length = np) (hst : st = As.reverse ++ rV E b :: rest) (hW : (rest.map fun v => v.category).sum ≤ 8) (hR : rOk μ.2.2.2.2 μ'.2.2.2.2 μ'.2.2.1 = true) (hd : decode μ.2.1 pc = .ok (.invokevirtual idx, 3)) (kk : ∀ r σ1, Sim Q Γ Ξ E μ σ1 (pc + 3) lv (.long r :: rest) (K r σ1)) : Sim Q Γ Ξ E μ σ pc lv st (cal f K) := s_callV0 hM hV hL hC hm hkd hci hc hq hn hst hW hR hd (fun r => kk r.1 r.2)
theorem s_callVpV {f : Option Unit} {K : Unit → Option ρ} (hM : MF μ' np) (hV : VF μ') (hL : Cond.methodLink μ.1.cls idx μ'.1 ∈ tT) (hC : Ctr Γ.2.1 (enV) (fun _ => σ) E μ' (rV E b :: As) σ f) (hm : b ∈ E.2.2.2.1) (hkd : kd b = ci) (hci : ci < 11) (hc : vwCl[ci]? = some q) (hq : q.1 = μ'.1.cls) (hn : As.length = np) (hst : st = As.reverse ++ rV E b :: rest) (hW : (rest.map fun v => v.category).sum ≤ 8) (hR : rOk μ.2.2.2.2 μ'.2.2.2.2 μ'.2.2.1 = true) (hd : decode μ.2.1 pc = .ok (.invokevirtual idx, 3)) (kk : ∀ r, Sim Q Γ Ξ E μ σ (pc + 3) lv (rest) (K r)) : Sim Q Γ Ξ E μ σ pc lv st (calP f K) := s_callV0 hM hV hL hC hm hkd hci hc hq hn hst hW hR hd kk
theorem s_callVwV {f : Option (Unit × St)} {K : Unit → St → Option ρ} (hM : MF μ' np) (hV : VF μ') (hL : Cond.methodLink μ.1.cls idx μ'.1 ∈ tT) (hC : Ctr Γ.2.1 (en2 (enV)) (fun q => q.2) E μ' (rV E b :: As) σ f) (hm : b ∈ E.2.2.2.1) (hkd : kd b = ci) (hci : ci < 11) (hc : vwCl[ci]? = some q) (hq : q.1 = μ'.1.cls) (hn : As.length = np) (hst : st = As.reverse ++ rV E b :: rest) (hW : (rest.map fun v => v.category).sum ≤ 8) (hR : rOk μ.2.2.2.2 μ'.2.2.2.2 μ'.2.2.1 = true) (hd : decode μ.2.1 pc = .ok (.invokevirtual idx, 3)) (kk : ∀ r σ1, Sim Q Γ Ξ E μ σ1 (pc + 3) lv (rest) (K r σ1)) : Sim Q Γ Ξ E μ σ pc lv st (cal f K) := s_callV0 hM hV hL hC hm hkd hci hc hq hn hst hW hR hd (fun r => kk r.1 r.2)
theorem s_callVpM {f : Option Nat} {K : Nat → Option ρ} (hM : MF μ' np) (hV : VF μ') (hL : Cond.methodLink μ.1.cls idx μ'.1 ∈ tT) (hC : Ctr Γ.2.1 (enS E) (fun _ => σ) E μ' (rV E b :: As) σ f) (hm : b ∈ E.2.2.2.1) (hkd : kd b = ci) (hci : ci < 11) (hc : vwCl[ci]? = some q) (hq : q.1 = μ'.1.cls) (hn : As.length = np) (hst : st = As.reverse ++ rV E b :: rest) (hW : (rest.map fun v => v.category).sum ≤ 8) (hR : rOk μ.2.2.2.2 μ'.2.2.2.2 μ'.2.2.1 = true) (hd : decode μ.2.1 pc = .ok (.invokevirtual idx, 3)) (kk : ∀ r, Sim Q Γ Ξ E μ σ (pc + 3) lv (rV E (32 + 2 * r) :: rest) (K r)) : Sim Q Γ Ξ E μ σ pc lv st (calP f K) := s_callV0 hM hV hL hC hm hkd hci hc hq hn hst hW hR hd kk
theorem s_callVwM {f : Option (Nat × St)} {K : Nat → St → Option ρ} (hM : MF μ' np) (hV : VF μ') (hL : Cond.methodLink μ.1.cls idx μ'.1 ∈ tT) (hC : Ctr Γ.2.1 (en2 (enS E)) (fun q => q.2) E μ' (rV E b :: As) σ f) (hm : b ∈ E.2.2.2.1) (hkd : kd b = ci) (hci : ci < 11) (hc : vwCl[ci]? = some q) (hq : q.1 = μ'.1.cls) (hn : As.length = np) (hst : st = As.reverse ++ rV E b :: rest) (hW : (rest.map fun v => v.category).sum ≤ 8) (hR : rOk μ.2.2.2.2 μ'.2.2.2.2 μ'.2.2.1 = true) (hd : decode μ.2.1 pc = .ok (.invokevirtual idx, 3)) (kk : ∀ r σ1, Sim Q Γ Ξ E μ σ1 (pc + 3) lv (rV E (32 + 2 * r) :: rest) (K r σ1)) : Sim Q Γ Ξ E μ σ pc lv st (cal f K) := s_callV0 hM hV hL hC hm hkd hci hc hq hn hst hW hR hd (fun r => kk r.1 r.2)
theorem s_callVpC {f : Option Nat} {K : Nat → Option ρ} (hM : MF μ' np) (hV : VF μ') (hL : Cond.methodLink μ.1.cls idx μ'.1 ∈ tT) (hC : Ctr Γ.2.1 (enC E) (fun _ => σ) E μ' (rV E b :: As) σ f) (hm : b ∈ E.2.2.2.1) (hkd : kd b = ci) (hci : ci < 11) (hc : vwCl[ci]? = some q) (hq : q.1 = μ'.1.cls) (hn : As.length = np) (hst : st = As.reverse ++ rV E b :: rest) (hW : (rest.map fun v => v.category).sum ≤ 8) (hR : rOk μ.2.2.2.2 μ'.2.2.2.2 μ'.2.2.1 = true) (hd : decode μ.2.1 pc = .ok (.invokevirtual idx, 3)) (kk : ∀ r, Sim Q Γ Ξ E μ σ (pc + 3) lv (rV E (40 + 5 * r) :: rest) (K r)) : Sim Q Γ Ξ E μ σ pc lv st (calP f K) := s_callV0 hM hV hL hC hm hkd hci hc hq hn hst hW hR hd kk
theorem s_callVwC {f : Option (Nat × St)} {K : Nat → St → Option ρ} (hM : MF μ' np) (hV : VF μ') (hL : Cond.methodLink μ.1.cls idx μ'.1 ∈ tT) (hC : Ctr Γ.2.1 (en2 (enC E)) (fun q => q.2) E μ' (rV E b :: As) σ f) (hm : b ∈ E.2.2.2.1) (hkd : kd b = ci) (hci : ci < 11) (hc : vwCl[ci]? = some q) (hq : q.1 = μ'.1.cls) (hn : As.length = np) (hst : st = As.reverse ++ rV E b :: rest) (hW : (rest.map fun v => v.category).sum ≤ 8) (hR : rOk μ.2.2.2.2 μ'.2.2.2.2 μ'.2.2.1 = true) (hd : decode μ.2.1 pc = .ok (.invokevirtual idx, 3)) (kk : ∀ r σ1, Sim Q Γ Ξ E μ σ1 (pc + 3) lv (rV E (40 + 5 * r) :: rest) (K r σ1)) : Sim Q Γ Ξ E μ σ pc lv st (cal f K) := s_callV0 hM hV hL hC hm hkd hci hc hq hn hst hW hR hd (fun r => kk r.1 r.2)
theorem s_callSpI {f : Option Int32} {K : Int32 → Option ρ} (hM : MF μ' np) (hV : Cond.static μ'.1 ∈ tT) (hL : Cond.methodLink μ.1.cls idx μ'.1 ∈ tT) (hC : Ctr Γ.2.1 (enI) (fun _ => σ) E μ' As σ f) (hn : As.length = np) (hst : st = As.reverse ++ rest) (hW : (rest.map fun v => v.category).sum ≤ 8) (hR : rOk μ.2.2.2.2 μ'.2.2.2.2 μ'.2.2.1 = true) (hd : decode μ.2.1 pc = .ok (.invokestatic idx, 3)) (kk : ∀ r, Sim Q Γ Ξ E μ σ (pc + 3) lv (.int r :: rest) (K r)) : Sim Q Γ Ξ E μ σ pc lv st (calP f K) := s_callS0 hM hV hL hC hn hst hW hR hd kk
theorem s_callSwI {f : Option (Int32 × St)} {K : Int32 → St → Option ρ} (hM : MF μ' np) (hV : Cond.static μ'.1 ∈ tT) (hL : Cond.methodLink μ.1.cls idx μ'.1 ∈ tT) (hC : Ctr Γ.2.1 (en2 (enI)) (fun q => q.2) E μ' As σ f) (hn : As.length = np) (hst : st = As.reverse ++ rest) (hW : (rest.map fun v => v.category).sum ≤ 8) (hR : rOk μ.2.2.2.2 μ'.2.2.2.2 μ'.2.2.1 = true) (hd : decode μ.2.1 pc = .ok (.invokestatic idx, 3)) (kk : ∀ r σ1, Sim Q Γ Ξ E μ σ1 (pc + 3) lv (.int r :: rest) (K r σ1)) : Sim Q Γ Ξ E μ σ pc lv st (cal f K) := s_callS0 hM hV hL hC hn hst hW hR hd (fun r => kk r.1 r.2)
theorem s_callSpL {f : Option Int64} {K : Int64 → Option ρ} (hM : MF μ' np) (hV : Cond.static μ'.1 ∈ tT) (hL : Cond.methodLink μ.1.cls idx μ'.1 ∈ tT) (hC : Ctr Γ.2.1 (enL) (fun _ => σ) E μ' As σ f) (hn : As.length = np) (hst : st = As.reverse ++ rest) (hW : (rest.map fun v => v.category).sum ≤ 8) (hR : rOk μ.2.2.2.2 μ'.2.2.2.2 μ'.2.2.1 = true) (hd : decode μ.2.1 pc = .ok (.invokestatic idx, 3)) (kk : ∀ r, Sim Q Γ Ξ E μ σ (pc + 3) lv (.long r :: rest) (K r)) : Sim Q Γ Ξ E μ σ pc lv st (calP f K) := s_callS0 hM hV hL hC hn hst hW hR hd kk
theorem s_callSwL {f : Option (Int64 × St)} {K : Int64 → St → Option ρ} (hM : MF μ' np) (hV : Cond.static μ'.1 ∈ tT) (hL : Cond.methodLink μ.1.cls idx μ'.1 ∈ tT) (hC : Ctr Γ.2.1 (en2 (enL)) (fun q => q.2) E μ' As σ f) (hn : As.length = np) (hst : st = As.reverse ++ rest) (hW : (rest.map fun v => v.category).sum ≤ 8) (hR : rOk μ.2.2.2.2 μ'.2.2.2.2 μ'.2.2.1 = true) (hd : decode μ.2.1 pc = .ok (.invokestatic idx, 3)) (kk : ∀ r σ1, Sim Q Γ Ξ E μ σ1 (pc + 3) lv (.long r :: rest) (K r σ1)) : Sim Q Γ Ξ E μ σ pc lv st (cal f K) := s_callS0 hM hV hL hC hn hst hW hR hd (fun r => kk r.1 r.2)
theorem s_callSpV {f : Option Unit} {K : Unit → Option ρ} (hM : MF μ' np) (hV : Cond.static μ'.1 ∈ tT) (hL : Cond.methodLink μ.1.cls idx μ'.1 ∈ tT) (hC : Ctr Γ.2.1 (enV) (fun _ => σ) E μ' As σ f) (hn : As.length = np) (hst : st = As.reverse ++ rest) (hW : (rest.map fun v => v.category).sum ≤ 8) (hR : rOk μ.2.2.2.2 μ'.2.2.2.2 μ'.2.2.1 = true) (hd : decode μ.2.1 pc = .ok (.invokestatic idx, 3)) (kk : ∀ r, Sim Q Γ Ξ E μ σ (pc + 3) lv (rest) (K r)) : Sim Q Γ Ξ E μ σ pc lv st (calP f K) := s_callS0 hM hV hL hC hn hst hW hR hd kk
theorem s_callSwV {f : Option (Unit × St)} {K : Unit → St → Option ρ} (hM : MF μ' np) (hV : Cond.static μ'.1 ∈ tT) (hL : Cond.methodLink μ.1.cls idx μ'.1 ∈ tT) (hC : Ctr Γ.2.1 (en2 (enV)) (fun q => q.2) E μ' As σ f) (hn : As.length = np) (hst : st = As.reverse ++ rest) (hW : (rest.map fun v => v.category).sum ≤ 8) (hR : rOk μ.2.2.2.2 μ'.2.2.2.2 μ'.2.2.1 = true) (hd : decode μ.2.1 pc = .ok (.invokestatic idx, 3)) (kk : ∀ r σ1, Sim Q Γ Ξ E μ σ1 (pc + 3) lv (rest) (K r σ1)) : Sim Q Γ Ξ E μ σ pc lv st (cal f K) := s_callS0 hM hV hL hC hn hst hW hR hd (fun r => kk r.1 r.2)
theorem s_callNpI {f : Option Int32} {K : Int32 → Option ρ} (hM : MF μ' np) {host : String} (hV : Cond.static μ'.1 ∈ tT) (hL : Cond.methodLinkNest μ.1.cls idx μ'.1 host ∈ nestW) (hC : Ctr Γ.2.1 (enI) (fun _ => σ) E μ' As σ f) (hn : As.length = np) (hst : st = As.reverse ++ rest) (hW : (rest.map fun v => v.category).sum ≤ 8) (hR : rOk μ.2.2.2.2 μ'.2.2.2.2 μ'.2.2.1 = true) (hd : decode μ.2.1 pc = .ok (.invokestatic idx, 3)) (kk : ∀ r, Sim Q Γ Ξ E μ σ (pc + 3) lv (.int r :: rest) (K r)) : Sim Q Γ Ξ E μ σ pc lv st (calP f K) := s_callN0 hM hV hL hC hn hst hW hR hd kk
theorem s_callNwI {f : Option (Int32 × St)} {K : Int32 → St → Option ρ} (hM : MF μ' np) {host : String} (hV : Cond.static μ'.1 ∈ tT) (hL : Cond.methodLinkNest μ.1.cls idx μ'.1 host ∈ nestW) (hC : Ctr Γ.2.1 (en2 (enI)) (fun q => q.2) E μ' As σ f) (hn : As.length = np) (hst : st = As.reverse ++ rest) (hW : (rest.map fun v => v.category).sum ≤ 8) (hR : rOk μ.2.2.2.2 μ'.2.2.2.2 μ'.2.2.1 = true) (hd : decode μ.2.1 pc = .ok (.invokestatic idx, 3)) (kk : ∀ r σ1, Sim Q Γ Ξ E μ σ1 (pc + 3) lv (.int r :: rest) (K r σ1)) : Sim Q Γ Ξ E μ σ pc lv st (cal f K) := s_callN0 hM hV hL hC hn hst hW hR hd (fun r => kk r.1 r.2)
theorem s_callNpL {f : Option Int64} {K : Int64 → Option ρ} (hM : MF μ' np) {host : String} (hV : Cond.static μ'.1 ∈ tT) (hL : Cond.methodLinkNest μ.1.cls idx μ'.1 host ∈ nestW) (hC : Ctr Γ.2.1 (enL) (fun _ => σ) E μ' As σ f) (hn : As.length = np) (hst : st = As.reverse ++ rest) (hW : (rest.map fun v => v.category).sum ≤ 8) (hR : rOk μ.2.2.2.2 μ'.2.2.2.2 μ'.2.2.1 = true) (hd : decode μ.2.1 pc = .ok (.invokestatic idx, 3)) (kk : ∀ r, Sim Q Γ Ξ E μ σ (pc + 3) lv (.long r :: rest) (K r)) : Sim Q Γ Ξ E μ σ pc lv st (calP f K) := s_callN0 hM hV hL hC hn hst hW hR hd kk
theorem s_callNwL {f : Option (Int64 × St)} {K : Int64 → St → Option ρ} (hM : MF μ' np) {host : String} (hV : Cond.static μ'.1 ∈ tT) (hL : Cond.methodLinkNest μ.1.cls idx μ'.1 host ∈ nestW) (hC : Ctr Γ.2.1 (en2 (enL)) (fun q => q.2) E μ' As σ f) (hn : As.length = np) (hst : st = As.reverse ++ rest) (hW : (rest.map fun v => v.category).sum ≤ 8) (hR : rOk μ.2.2.2.2 μ'.2.2.2.2 μ'.2.2.1 = true) (hd : decode μ.2.1 pc = .ok (.invokestatic idx, 3)) (kk : ∀ r σ1, Sim Q Γ Ξ E μ σ1 (pc + 3) lv (.long r :: rest) (K r σ1)) : Sim Q Γ Ξ E μ σ pc lv st (cal f K) := s_callN0 hM hV hL hC hn hst hW hR hd (fun r => kk r.1 r.2)
theorem s_callNpV {f : Option Unit} {K : Unit → Option ρ} (hM : MF μ' np) {host : String} (hV : Cond.static μ'.1 ∈ tT) (hL : Cond.methodLinkNest μ.1.cls idx μ'.1 host ∈ nestW) (hC : Ctr Γ.2.1 (enV) (fun _ => σ) E μ' As σ f) (hn : As.length = np) (hst : st = As.reverse ++ rest) (hW : (rest.map fun v => v.category).sum ≤ 8) (hR : rOk μ.2.2.2.2 μ'.2.2.2.2 μ'.2.2.1 = true) (hd : decode μ.2.1 pc = .ok (.invokestatic idx, 3)) (kk : ∀ r, Sim Q Γ Ξ E μ σ (pc + 3) lv (rest) (K r)) : Sim Q Γ Ξ E μ σ pc lv st (calP f K) := s_callN0 hM hV hL hC hn hst hW hR hd kk
theorem s_callNwV {f : Option (Unit × St)} {K : Unit → St → Option ρ} (hM : MF μ' np) {host : String} (hV : Cond.static μ'.1 ∈ tT) (hL : Cond.methodLinkNest μ.1.cls idx μ'.1 host ∈ nestW) (hC : Ctr Γ.2.1 (en2 (enV)) (fun q => q.2) E μ' As σ f) (hn : As.length = np) (hst : st = As.reverse ++ rest) (hW : (rest.map fun v => v.category).sum ≤ 8) (hR : rOk μ.2.2.2.2 μ'.2.2.2.2 μ'.2.2.1 = true) (hd : decode μ.2.1 pc = .ok (.invokestatic idx, 3)) (kk : ∀ r σ1, Sim Q Γ Ξ E μ σ1 (pc + 3) lv (rest) (K r σ1)) : Sim Q Γ Ξ E μ σ pc lv st (cal f K) := s_callN0 hM hV hL hC hn hst hW hR hd (fun r => kk r.1 r.2)
/-- Math.max, Math.min -/
theorem s_mmax {x y : Int32} (hL : Cond.methodLink μ.1.cls idx Lib.Math.max.name ∈ tT) (hR : ((1).ble μ.2.2.2.2.frames && ((st.map fun v => v.category).sum + 13).ble μ.2.2.2.2.locals) = true) (hd : decode μ.2.1 pc = .ok (.invokestatic idx, 3)) {o : Option ρ} (kk : Sim Q Γ Ξ E μ σ (pc + 3) lv (.int (if x < y then y else x) :: st) o) : Sim Q Γ Ξ E μ σ pc lv (.int y :: .int x :: st) o := by
  intro Cc r ho ls H locs hl hP hS
  obtain ⟨hx, hb, hml, hr', hown', hts, hlocks, hK, ⟨hE, hA, hcc, hcs⟩, hKs⟩ := id Cc
  rw [Bool.and_eq_true] at hR
  exact va_mmax hx hb (hml.trans hl.1.symm) hown' (hts _ hL) (hts _ maxS) (hts _ maxI) (hts _ maxC) (Nat.le_of_ble_eq_true hR.1) (Nat.le_of_ble_eq_true hR.2) hcc hcs hd (kk Cc r ho ls H locs hl hP hS)
theorem s_mmin {x y : Int32} (hL : Cond.methodLink μ.1.cls idx Lib.Math.min.name ∈ tT) (hR : ((1).ble μ.2.2.2.2.frames && ((st.map fun v => v.category).sum + 13).ble μ.2.2.2.2.locals) = true) (hd : decode μ.2.1 pc = .ok (.invokestatic idx, 3)) {o : Option ρ} (kk : Sim Q Γ Ξ E μ σ (pc + 3) lv (.int (if y < x then y else x) :: st) o) : Sim Q Γ Ξ E μ σ pc lv (.int y :: .int x :: st) o := by
  intro Cc r ho ls H locs hl hP hS
  obtain ⟨hx, hb, hml, hr', hown', hts, hlocks, hK, ⟨hE, hA, hcc, hcs⟩, hKs⟩ := id Cc
  rw [Bool.and_eq_true] at hR
  exact va_mmin hx hb (hml.trans hl.1.symm) hown' (hts _ hL) (hts _ minS) (hts _ maxI) (hts _ minC) (Nat.le_of_ble_eq_true hR.1) (Nat.le_of_ble_eq_true hR.2) hcc hcs hd (kk Cc r ho ls H locs hl hP hS)
/-- the table LACKS, at 133 -/
theorem s_getK {own : String} {o : Option ρ} (hown : μ.1.cls = own) (hL : Cond.fieldLink own idx "RunnerNet$Guards" "LACKS" "[J" ∈ tT) (hd : decode μ.2.1 pc = .ok (.getstatic idx, 3)) (kk : Sim Q Γ Ξ E μ σ (pc + 3) lv (rV E 133 :: st) o) : Sim Q Γ Ξ E μ σ pc lv st o := by
  intro Cc r ho ls H locs hl hP hS
  obtain ⟨hx, hb, hml, hr', hown', hts, hlocks, hK, ⟨hE, hA, hcc, hcs⟩, hKs⟩ := id Cc
  rw [hown] at hown'
  exact va_gets hx hb hKs.2.1.1 hS hown' (hts _ hL) (fun _ h => h) hd (kk Cc r ho ls H locs hl hP hS)
theorem s_lenK {o : Option ρ} (hd : decode μ.2.1 pc = .ok (.arraylength, 1)) (kk : Sim Q Γ Ξ E μ σ (pc + 1) lv (.int 6 :: st) o) : Sim Q Γ Ξ E μ σ pc lv (rV E 133 :: st) o := by
  intro Cc r ho ls H locs hl hP hS
  obtain ⟨hx, hb, hml, hr', hown', hts, hlocks, hK, ⟨hE, hA, hcc, hcs⟩, hKs⟩ := id Cc
  exact va_tlen hx hb hKs.2.1.2 hS rfl hd (kk Cc r ho ls H locs hl hP hS)
theorem s_ldK {i : Int32} {o : Option ρ} (hd : decode μ.2.1 pc = .ok (.laload, 1)) (kk : Sim Q Γ Ξ E μ σ (pc + 1) lv (.long (lackV i.toNatClampNeg) :: st) o) : Sim Q Γ Ξ E μ σ pc lv (.int i :: rV E 133 :: st) (ck i 6 o) := by
  intro Cc r ho ls H locs hl hP hS
  obtain ⟨hi, ho2⟩ := ck_in ho
  obtain ⟨hx, hb, hml, hr', hown', hts, hlocks, hK, ⟨hE, hA, hcc, hcs⟩, hKs⟩ := id Cc
  exact va_tl hx hb hKs.2.1.2 hS hi rfl hd (kk Cc r ho2 ls H locs hl hP hS)
end CALLK
end
section
def FU : Nat := 1000000
theorem j_ite {A R : Type} {c : Prop} [Decidable c] {a b : A} {k : A → R} {x y : R} (h1 : k a = x) (h2 : k b = y) : k (if c then a else b) = if c then x else y := by
  by_cases h : c
  · rw [if_pos h, if_pos h]; exact h1
  · rw [if_neg h, if_neg h]; exact h2
theorem ft_of {a ci k t : Nat} (h : kd a = ci) (h2 : (FTs.getD ci [])[k]? = some t) : ft a k = some t := by unfold ft; rw [h]; exact h2
def szS (k : Nat) : Nat := [8, 64, 512].getD k 0
theorem div3 {i : Nat} (h : i < 9) : i / 3 < 3 := by omega
theorem m0 {E : Ev} (hF : Full E) : 0 ∈ E.2.2.2.1 := hF.1 0 (by decide)
theorem k0 : kd 0 = 9 := rfl
theorem m1 {E : Ev} (hF : Full E) : 1 ∈ E.2.2.2.1 := hF.1 1 (by decide)
theorem k1 : kd 1 = 3 := rfl
theorem m2 {E : Ev} (hF : Full E) : 2 ∈ E.2.2.2.1 := hF.1 2 (by decide)
theorem k2 : kd 2 = 11 := rfl
theorem l2 : ln 2 = 8 := rfl
theorem m3 {E : Ev} (hF : Full E) : 3 ∈ E.2.2.2.1 := hF.1 3 (by decide)
theorem k3 : kd 3 = 11 := rfl
theorem l3 : ln 3 = 8 := rfl
theorem m4 {E : Ev} (hF : Full E) : 4 ∈ E.2.2.2.1 := hF.1 4 (by decide)
theorem k4 : kd 4 = 11 := rfl
theorem l4 : ln 4 = 256 := rfl
theorem m5 {E : Ev} (hF : Full E) : 5 ∈ E.2.2.2.1 := hF.1 5 (by decide)
theorem k5 : kd 5 = 11 := rfl
theorem l5 : ln 5 = 256 := rfl
theorem m6 {E : Ev} (hF : Full E) : 6 ∈ E.2.2.2.1 := hF.1 6 (by decide)
theorem k6 : kd 6 = 7 := rfl
theorem m7 {E : Ev} (hF : Full E) : 7 ∈ E.2.2.2.1 := hF.1 7 (by decide)
theorem k7 : kd 7 = 11 := rfl
theorem l7 : ln 7 = 160 := rfl
theorem m8 {E : Ev} (hF : Full E) : 8 ∈ E.2.2.2.1 := hF.1 8 (by decide)
theorem k8 : kd 8 = 11 := rfl
theorem l8 : ln 8 = 16 := rfl
theorem m9 {E : Ev} (hF : Full E) : 9 ∈ E.2.2.2.1 := hF.1 9 (by decide)
theorem k9 : kd 9 = 11 := rfl
theorem l9 : ln 9 = 16 := rfl
theorem m10 {E : Ev} (hF : Full E) : 10 ∈ E.2.2.2.1 := hF.1 10 (by decide)
theorem k10 : kd 10 = 11 := rfl
theorem l10 : ln 10 = 16 := rfl
theorem m11 {E : Ev} (hF : Full E) : 11 ∈ E.2.2.2.1 := hF.1 11 (by decide)
theorem k11 : kd 11 = 16 := rfl
theorem l11 : ln 11 = 3 := rfl
theorem m12 {E : Ev} (hF : Full E) : 12 ∈ E.2.2.2.1 := hF.1 12 (by decide)
theorem k12 : kd 12 = 14 := rfl
theorem l12 : ln 12 = 9 := rfl
theorem m13 {E : Ev} (hF : Full E) : 13 ∈ E.2.2.2.1 := hF.1 13 (by decide)
theorem k13 : kd 13 = 5 := rfl
theorem m14 {E : Ev} (hF : Full E) : 14 ∈ E.2.2.2.1 := hF.1 14 (by decide)
theorem k14 : kd 14 = 8 := rfl
theorem m15 {E : Ev} (hF : Full E) : 15 ∈ E.2.2.2.1 := hF.1 15 (by decide)
theorem k15 : kd 15 = 11 := rfl
theorem l15 : ln 15 = 2816 := rfl
theorem m16 {E : Ev} (hF : Full E) : 16 ∈ E.2.2.2.1 := hF.1 16 (by decide)
theorem k16 : kd 16 = 11 := rfl
theorem l16 : ln 16 = 2816 := rfl
theorem m17 {E : Ev} (hF : Full E) : 17 ∈ E.2.2.2.1 := hF.1 17 (by decide)
theorem k17 : kd 17 = 11 := rfl
theorem l17 : ln 17 = 512 := rfl
theorem m18 {E : Ev} (hF : Full E) : 18 ∈ E.2.2.2.1 := hF.1 18 (by decide)
theorem k18 : kd 18 = 4 := rfl
theorem m19 {E : Ev} (hF : Full E) : 19 ∈ E.2.2.2.1 := hF.1 19 (by decide)
theorem k19 : kd 19 = 11 := rfl
theorem l19 : ln 19 = 256 := rfl
theorem m20 {E : Ev} (hF : Full E) : 20 ∈ E.2.2.2.1 := hF.1 20 (by decide)
theorem k20 : kd 20 = 11 := rfl
theorem l20 : ln 20 = 8 := rfl
theorem m21 {E : Ev} (hF : Full E) : 21 ∈ E.2.2.2.1 := hF.1 21 (by decide)
theorem k21 : kd 21 = 4 := rfl
theorem m22 {E : Ev} (hF : Full E) : 22 ∈ E.2.2.2.1 := hF.1 22 (by decide)
theorem k22 : kd 22 = 11 := rfl
theorem l22 : ln 22 = 256 := rfl
theorem m23 {E : Ev} (hF : Full E) : 23 ∈ E.2.2.2.1 := hF.1 23 (by decide)
theorem k23 : kd 23 = 11 := rfl
theorem l23 : ln 23 = 8 := rfl
theorem m24 {E : Ev} (hF : Full E) : 24 ∈ E.2.2.2.1 := hF.1 24 (by decide)
theorem k24 : kd 24 = 1 := rfl
theorem m25 {E : Ev} (hF : Full E) : 25 ∈ E.2.2.2.1 := hF.1 25 (by decide)
theorem k25 : kd 25 = 15 := rfl
theorem l25 : ln 25 = 2 := rfl
theorem m26 {E : Ev} (hF : Full E) : 26 ∈ E.2.2.2.1 := hF.1 26 (by decide)
theorem k26 : kd 26 = 2 := rfl
theorem m27 {E : Ev} (hF : Full E) : 27 ∈ E.2.2.2.1 := hF.1 27 (by decide)
theorem k27 : kd 27 = 12 := rfl
theorem l27 : ln 27 = 1024 := rfl
theorem m28 {E : Ev} (hF : Full E) : 28 ∈ E.2.2.2.1 := hF.1 28 (by decide)
theorem k28 : kd 28 = 12 := rfl
theorem l28 : ln 28 = 4 := rfl
theorem m29 {E : Ev} (hF : Full E) : 29 ∈ E.2.2.2.1 := hF.1 29 (by decide)
theorem k29 : kd 29 = 2 := rfl
theorem m30 {E : Ev} (hF : Full E) : 30 ∈ E.2.2.2.1 := hF.1 30 (by decide)
theorem k30 : kd 30 = 12 := rfl
theorem l30 : ln 30 = 1024 := rfl
theorem m31 {E : Ev} (hF : Full E) : 31 ∈ E.2.2.2.1 := hF.1 31 (by decide)
theorem k31 : kd 31 = 12 := rfl
theorem l31 : ln 31 = 4 := rfl
theorem m100 {E : Ev} (hF : Full E) : 100 ∈ E.2.2.2.1 := hF.1 100 (by decide)
theorem k100 : kd 100 = 10 := rfl
theorem m101 {E : Ev} (hF : Full E) : 101 ∈ E.2.2.2.1 := hF.1 101 (by decide)
theorem k101 : kd 101 = 11 := rfl
theorem l101 : ln 101 = 8 := rfl
theorem m102 {E : Ev} (hF : Full E) : 102 ∈ E.2.2.2.1 := hF.1 102 (by decide)
theorem k102 : kd 102 = 11 := rfl
theorem l102 : ln 102 = 160 := rfl
theorem m103 {E : Ev} (hF : Full E) : 103 ∈ E.2.2.2.1 := hF.1 103 (by decide)
theorem k103 : kd 103 = 11 := rfl
theorem l103 : ln 103 = 48 := rfl
theorem m104 {E : Ev} (hF : Full E) : 104 ∈ E.2.2.2.1 := hF.1 104 (by decide)
theorem k104 : kd 104 = 13 := rfl
theorem l104 : ln 104 = 9 := rfl
theorem m105 {E : Ev} (hF : Full E) : 105 ∈ E.2.2.2.1 := hF.1 105 (by decide)
theorem k105 : kd 105 = 11 := rfl
theorem l105 : ln 105 = 36864 := rfl
theorem m106 {E : Ev} (hF : Full E) : 106 ∈ E.2.2.2.1 := hF.1 106 (by decide)
theorem k106 : kd 106 = 11 := rfl
theorem l106 : ln 106 = 4096 := rfl
theorem m107 {E : Ev} (hF : Full E) : 107 ∈ E.2.2.2.1 := hF.1 107 (by decide)
theorem k107 : kd 107 = 11 := rfl
theorem l107 : ln 107 = 512 := rfl
theorem m108 {E : Ev} (hF : Full E) : 108 ∈ E.2.2.2.1 := hF.1 108 (by decide)
theorem k108 : kd 108 = 11 := rfl
theorem l108 : ln 108 = 3 := rfl
theorem m109 {E : Ev} (hF : Full E) : 109 ∈ E.2.2.2.1 := hF.1 109 (by decide)
theorem k109 : kd 109 = 11 := rfl
theorem l109 : ln 109 = 3 := rfl
theorem m110 {E : Ev} (hF : Full E) : 110 ∈ E.2.2.2.1 := hF.1 110 (by decide)
theorem k110 : kd 110 = 11 := rfl
theorem l110 : ln 110 = 16384 := rfl
theorem m111 {E : Ev} (hF : Full E) : 111 ∈ E.2.2.2.1 := hF.1 111 (by decide)
theorem k111 : kd 111 = 11 := rfl
theorem l111 : ln 111 = 16384 := rfl
theorem m112 {E : Ev} (hF : Full E) : 112 ∈ E.2.2.2.1 := hF.1 112 (by decide)
theorem k112 : kd 112 = 13 := rfl
theorem l112 : ln 112 = 3 := rfl
theorem m113 {E : Ev} (hF : Full E) : 113 ∈ E.2.2.2.1 := hF.1 113 (by decide)
theorem k113 : kd 113 = 11 := rfl
theorem l113 : ln 113 = 3 := rfl
theorem m114 {E : Ev} (hF : Full E) : 114 ∈ E.2.2.2.1 := hF.1 114 (by decide)
theorem k114 : kd 114 = 11 := rfl
theorem l114 : ln 114 = 3 := rfl
theorem m115 {E : Ev} (hF : Full E) : 115 ∈ E.2.2.2.1 := hF.1 115 (by decide)
theorem k115 : kd 115 = 11 := rfl
theorem l115 : ln 115 = 8 := rfl
theorem m116 {E : Ev} (hF : Full E) : 116 ∈ E.2.2.2.1 := hF.1 116 (by decide)
theorem k116 : kd 116 = 11 := rfl
theorem l116 : ln 116 = 256 := rfl
theorem m117 {E : Ev} (hF : Full E) : 117 ∈ E.2.2.2.1 := hF.1 117 (by decide)
theorem k117 : kd 117 = 11 := rfl
theorem l117 : ln 117 = 2048 := rfl
theorem m118 {E : Ev} (hF : Full E) : 118 ∈ E.2.2.2.1 := hF.1 118 (by decide)
theorem k118 : kd 118 = 11 := rfl
theorem l118 : ln 118 = 8 := rfl
theorem m119 {E : Ev} (hF : Full E) : 119 ∈ E.2.2.2.1 := hF.1 119 (by decide)
theorem k119 : kd 119 = 13 := rfl
theorem l119 : ln 119 = 65536 := rfl
theorem m120 {E : Ev} (hF : Full E) : 120 ∈ E.2.2.2.1 := hF.1 120 (by decide)
theorem k120 : kd 120 = 13 := rfl
theorem l120 : ln 120 = 512 := rfl
theorem m121 {E : Ev} (hF : Full E) : 121 ∈ E.2.2.2.1 := hF.1 121 (by decide)
theorem k121 : kd 121 = 13 := rfl
theorem l121 : ln 121 = 256 := rfl
theorem m122 {E : Ev} (hF : Full E) : 122 ∈ E.2.2.2.1 := hF.1 122 (by decide)
theorem k122 : kd 122 = 13 := rfl
theorem l122 : ln 122 = 256 := rfl
theorem kS {i : Nat} (h : i < 3) : kd (32 + 2 * i) = 6 := by revert i; decide
theorem mS {E : Ev} (hF : Full E) {i : Nat} (h : i < 3) : 32 + 2 * i ∈ E.2.2.2.1 := hF.1 _ (by rw [kS h]; decide)
theorem kSp {i : Nat} (h : i < 3) : kd (33 + 2 * i) = 11 := by revert i; decide
theorem mSp {E : Ev} (hF : Full E) {i : Nat} (h : i < 3) : 33 + 2 * i ∈ E.2.2.2.1 := hF.1 _ (by rw [kSp h]; decide)
theorem lSp {i : Nat} (h : i < 3) : ln (33 + 2 * i) = szS i := by revert i; decide
theorem rS0 {i : Nat} (h : i < 3) : rf (32 + 2 * i) 0 = 1 := by revert i; decide
theorem rS3 {i : Nat} (h : i < 3) : rf (32 + 2 * i) 3 = 33 + 2 * i := by revert i; decide
theorem kC {i : Nat} (h : i < 9) : kd (40 + 5 * i) = 0 := by revert i; decide
theorem mC {E : Ev} (hF : Full E) {i : Nat} (h : i < 9) : 40 + 5 * i ∈ E.2.2.2.1 := hF.1 _ (by rw [kC h]; decide)
theorem kC1 {i : Nat} (h : i < 9) : kd (41 + 5 * i) = 11 := by revert i; decide
theorem mC1 {E : Ev} (hF : Full E) {i : Nat} (h : i < 9) : 41 + 5 * i ∈ E.2.2.2.1 := hF.1 _ (by rw [kC1 h]; decide)
theorem lC1 {i : Nat} (h : i < 9) : ln (41 + 5 * i) = 8 * szS (i / 3) := by revert i; decide
theorem kC2 {i : Nat} (h : i < 9) : kd (42 + 5 * i) = 11 := by revert i; decide
theorem mC2 {E : Ev} (hF : Full E) {i : Nat} (h : i < 9) : 42 + 5 * i ∈ E.2.2.2.1 := hF.1 _ (by rw [kC2 h]; decide)
theorem lC2 {i : Nat} (h : i < 9) : ln (42 + 5 * i) = szS (i / 3) := by revert i; decide
theorem kC3 {i : Nat} (h : i < 9) : kd (43 + 5 * i) = 11 := by revert i; decide
theorem mC3 {E : Ev} (hF : Full E) {i : Nat} (h : i < 9) : 43 + 5 * i ∈ E.2.2.2.1 := hF.1 _ (by rw [kC3 h]; decide)
theorem lC3 {i : Nat} (h : i < 9) : ln (43 + 5 * i) = szS (i / 3) := by revert i; decide
theorem kC4 {i : Nat} (h : i < 9) : kd (44 + 5 * i) = 11 := by revert i; decide
theorem mC4 {E : Ev} (hF : Full E) {i : Nat} (h : i < 9) : 44 + 5 * i ∈ E.2.2.2.1 := hF.1 _ (by rw [kC4 h]; decide)
theorem lC4 {i : Nat} (h : i < 9) : ln (44 + 5 * i) = szS (i / 3) := by revert i; decide
theorem rC0 {i : Nat} (h : i < 9) : rf (40 + 5 * i) 0 = 1 := by revert i; decide
theorem rC1 {i : Nat} (h : i < 9) : rf (40 + 5 * i) 1 = 32 + 2 * (i / 3) := by revert i; decide
theorem rC3 {i : Nat} (h : i < 9) : rf (40 + 5 * i) 3 = 41 + 5 * i := by revert i; decide
theorem rC4 {i : Nat} (h : i < 9) : rf (40 + 5 * i) 4 = 42 + 5 * i := by revert i; decide
theorem rC5 {i : Nat} (h : i < 9) : rf (40 + 5 * i) 5 = 43 + 5 * i := by revert i; decide
theorem rC6 {i : Nat} (h : i < 9) : rf (40 + 5 * i) 6 = 44 + 5 * i := by revert i; decide
theorem kO {i : Nat} (h : i < 2) : kd (18 + 3 * i) = 4 := by revert i; decide
theorem mO {E : Ev} (hF : Full E) {i : Nat} (h : i < 2) : 18 + 3 * i ∈ E.2.2.2.1 := hF.1 _ (by rw [kO h]; decide)
theorem kO1 {i : Nat} (h : i < 2) : kd (19 + 3 * i) = 11 := by revert i; decide
theorem mO1 {E : Ev} (hF : Full E) {i : Nat} (h : i < 2) : 19 + 3 * i ∈ E.2.2.2.1 := hF.1 _ (by rw [kO1 h]; decide)
theorem lO1 {i : Nat} (h : i < 2) : ln (19 + 3 * i) = 256 := by revert i; decide
theorem kO2 {i : Nat} (h : i < 2) : kd (20 + 3 * i) = 11 := by revert i; decide
theorem mO2 {E : Ev} (hF : Full E) {i : Nat} (h : i < 2) : 20 + 3 * i ∈ E.2.2.2.1 := hF.1 _ (by rw [kO2 h]; decide)
theorem lO2 {i : Nat} (h : i < 2) : ln (20 + 3 * i) = 8 := by revert i; decide
theorem rO0 {i : Nat} (h : i < 2) : rf (18 + 3 * i) 0 = 1 := by revert i; decide
theorem rO2 {i : Nat} (h : i < 2) : rf (18 + 3 * i) 2 = 19 + 3 * i := by revert i; decide
theorem rO3 {i : Nat} (h : i < 2) : rf (18 + 3 * i) 3 = 20 + 3 * i := by revert i; decide
theorem kG {i : Nat} (h : i < 2) : kd (26 + 3 * i) = 2 := by revert i; decide
theorem mG {E : Ev} (hF : Full E) {i : Nat} (h : i < 2) : 26 + 3 * i ∈ E.2.2.2.1 := hF.1 _ (by rw [kG h]; decide)
theorem kG1 {i : Nat} (h : i < 2) : kd (27 + 3 * i) = 12 := by revert i; decide
theorem mG1 {E : Ev} (hF : Full E) {i : Nat} (h : i < 2) : 27 + 3 * i ∈ E.2.2.2.1 := hF.1 _ (by rw [kG1 h]; decide)
theorem lG1 {i : Nat} (h : i < 2) : ln (27 + 3 * i) = 1024 := by revert i; decide
theorem kG2 {i : Nat} (h : i < 2) : kd (28 + 3 * i) = 12 := by revert i; decide
theorem mG2 {E : Ev} (hF : Full E) {i : Nat} (h : i < 2) : 28 + 3 * i ∈ E.2.2.2.1 := hF.1 _ (by rw [kG2 h]; decide)
theorem lG2 {i : Nat} (h : i < 2) : ln (28 + 3 * i) = 4 := by revert i; decide
theorem rG0 {i : Nat} (h : i < 2) : rf (26 + 3 * i) 0 = 1 := by revert i; decide
theorem rG2 {i : Nat} (h : i < 2) : rf (26 + 3 * i) 2 = 27 + 3 * i := by revert i; decide
theorem rG3 {i : Nat} (h : i < 2) : rf (26 + 3 * i) 3 = 28 + 3 * i := by revert i; decide
theorem rA14 {j : Nat} (h : j < 9) : rf 12 j = 40 + 5 * j := by revert j; decide
theorem rA15 {j : Nat} (h : j < 2) : rf 25 j = 26 + 3 * j := by revert j; decide
theorem rA16 {j : Nat} (h : j < 3) : rf 11 j = 32 + 2 * j := by revert j; decide
theorem gf_X9_14 : FL "RunnerNet" 14 9 0 true (.object "RunnerNet$Net") := ⟨RX9, TX9, 10, tyX9, rfl, inX9, tyX9_ok, nmX9, by decide, tM 362 (by decide +kernel) rfl, rfl, rfl, by decide⟩
theorem gf_X9_21 : FL "RunnerNet" 21 9 1 true (.object "RunnerNet$Text") := ⟨RX9, TX9, 10, tyX9, rfl, inX9, tyX9_ok, nmX9, by decide, tM 363 (by decide +kernel) rfl, rfl, rfl, by decide⟩
theorem gf_X9_27 : FL "RunnerNet" 27 9 2 true (.array (.object "RunnerNet$Settings")) := ⟨RX9, TX9, 10, tyX9, rfl, inX9, tyX9_ok, nmX9, by decide, tM 364 (by decide +kernel) rfl, rfl, rfl, by decide⟩
theorem gf_X9_33 : FL "RunnerNet" 33 9 3 true (.array (.object "RunnerNet$Chase")) := ⟨RX9, TX9, 10, tyX9, rfl, inX9, tyX9_ok, nmX9, by decide, tM 365 (by decide +kernel) rfl, rfl, rfl, by decide⟩
theorem gf_X9_46 : FL "RunnerNet" 46 9 4 true (.object "RunnerNet$Play") := ⟨RX9, TX9, 10, tyX9, rfl, inX9, tyX9_ok, nmX9, by decide, tM 366 (by decide +kernel) rfl, rfl, rfl, by decide⟩
theorem gf_X9_55 : FL "RunnerNet" 55 9 5 true (.object "RunnerNet$Unseen") := ⟨RX9, TX9, 10, tyX9, rfl, inX9, tyX9_ok, nmX9, by decide, tM 367 (by decide +kernel) rfl, rfl, rfl, by decide⟩
theorem gf_X9_64 : FL "RunnerNet" 64 9 6 true (.object "RunnerNet$Orders") := ⟨RX9, TX9, 10, tyX9, rfl, inX9, tyX9_ok, nmX9, by decide, tM 368 (by decide +kernel) rfl, rfl, rfl, by decide⟩
theorem gf_X9_68 : FL "RunnerNet" 68 9 7 true (.object "RunnerNet$Orders") := ⟨RX9, TX9, 10, tyX9, rfl, inX9, tyX9_ok, nmX9, by decide, tM 369 (by decide +kernel) rfl, rfl, rfl, by decide⟩
theorem gf_X9_76 : FL "RunnerNet" 76 9 8 true (.object "RunnerNet$Covers") := ⟨RX9, TX9, 10, tyX9, rfl, inX9, tyX9_ok, nmX9, by decide, tM 370 (by decide +kernel) rfl, rfl, rfl, by decide⟩
theorem gf_X9_83 : FL "RunnerNet" 83 9 9 true (.array (.object "RunnerNet$Guards")) := ⟨RX9, TX9, 10, tyX9, rfl, inX9, tyX9_ok, nmX9, by decide, tM 371 (by decide +kernel) rfl, rfl, rfl, by decide⟩
theorem gf_X0_9 : FL "RunnerNet$Chase" 9 0 0 true (.object "RunnerNet$Net") := ⟨RX0, TX0, 8, tyX0, rfl, inX0, tyX0_ok, nmX0, by decide, tM 219 (by decide +kernel) rfl, rfl, rfl, by decide⟩
theorem gf_X0_15 : FL "RunnerNet$Chase" 15 0 1 true (.object "RunnerNet$Settings") := ⟨RX0, TX0, 8, tyX0, rfl, inX0, tyX0_ok, nmX0, by decide, tM 220 (by decide +kernel) rfl, rfl, rfl, by decide⟩
theorem gf_X0_19 : FL "RunnerNet$Chase" 19 0 2 true (.int) := ⟨RX0, TX0, 8, tyX0, rfl, inX0, tyX0_ok, nmX0, by decide, tM 221 (by decide +kernel) rfl, rfl, rfl, by decide⟩
theorem gf_X0_29 : FL "RunnerNet$Chase" 29 0 3 true (.array .int) := ⟨RX0, TX0, 8, tyX0, rfl, inX0, tyX0_ok, nmX0, by decide, tM 222 (by decide +kernel) rfl, rfl, rfl, by decide⟩
theorem gf_X0_33 : FL "RunnerNet$Chase" 33 0 4 true (.array .int) := ⟨RX0, TX0, 8, tyX0, rfl, inX0, tyX0_ok, nmX0, by decide, tM 223 (by decide +kernel) rfl, rfl, rfl, by decide⟩
theorem gf_X0_36 : FL "RunnerNet$Chase" 36 0 5 true (.array .int) := ⟨RX0, TX0, 8, tyX0, rfl, inX0, tyX0_ok, nmX0, by decide, tM 224 (by decide +kernel) rfl, rfl, rfl, by decide⟩
theorem gf_X0_39 : FL "RunnerNet$Chase" 39 0 6 true (.array .int) := ⟨RX0, TX0, 8, tyX0, rfl, inX0, tyX0_ok, nmX0, by decide, tM 225 (by decide +kernel) rfl, rfl, rfl, by decide⟩
theorem gf_X0_42 : FL "RunnerNet$Chase" 42 0 7 false (.int) := ⟨RX0, TX0, 8, tyX0, rfl, inX0, tyX0_ok, nmX0, by decide, tM 226 (by decide +kernel) rfl, rfl, rfl, by decide⟩
theorem gf_X1_9 : FL "RunnerNet$Covers" 9 1 0 true (.object "RunnerNet$Net") := ⟨RX1, TX1, 1, tyX1, rfl, inX1, tyX1_ok, nmX1, by decide, tM 334 (by decide +kernel) rfl, rfl, rfl, by decide⟩
theorem gf_X2_11 : FL "RunnerNet$Guards" 11 2 2 true (.array .long) := ⟨RX2, TX2, 5, tyX2, rfl, inX2, tyX2_ok, nmX2, by decide, tM 347 (by decide +kernel) rfl, rfl, rfl, by decide⟩
theorem gf_X2_15 : FL "RunnerNet$Guards" 15 2 3 true (.array .long) := ⟨RX2, TX2, 5, tyX2, rfl, inX2, tyX2_ok, nmX2, by decide, tM 348 (by decide +kernel) rfl, rfl, rfl, by decide⟩
theorem gf_X2_18 : FL "RunnerNet$Guards" 18 2 0 true (.object "RunnerNet$Net") := ⟨RX2, TX2, 5, tyX2, rfl, inX2, tyX2_ok, nmX2, by decide, tM 345 (by decide +kernel) rfl, rfl, rfl, by decide⟩
theorem gf_X2_22 : FL "RunnerNet$Guards" 22 2 1 true (.int) := ⟨RX2, TX2, 5, tyX2, rfl, inX2, tyX2_ok, nmX2, by decide, tM 346 (by decide +kernel) rfl, rfl, rfl, by decide⟩
theorem gf_X2_26 : FL "RunnerNet$Guards" 26 2 4 false (.int) := ⟨RX2, TX2, 5, tyX2, rfl, inX2, tyX2_ok, nmX2, by decide, tM 349 (by decide +kernel) rfl, rfl, rfl, by decide⟩
theorem gf_X3_9 : FL "RunnerNet$Net" 9 3 2 true (.array .int) := ⟨RX3, TX3, 6, tyX3, rfl, inX3, tyX3_ok, nmX3, by decide, tM 132 (by decide +kernel) rfl, rfl, rfl, by decide⟩
theorem gf_X3_15 : FL "RunnerNet$Net" 15 3 3 true (.array .int) := ⟨RX3, TX3, 6, tyX3, rfl, inX3, tyX3_ok, nmX3, by decide, tM 133 (by decide +kernel) rfl, rfl, rfl, by decide⟩
theorem gf_X3_18 : FL "RunnerNet$Net" 18 3 4 true (.array .int) := ⟨RX3, TX3, 6, tyX3, rfl, inX3, tyX3_ok, nmX3, by decide, tM 134 (by decide +kernel) rfl, rfl, rfl, by decide⟩
theorem gf_X3_21 : FL "RunnerNet$Net" 21 3 5 true (.array .int) := ⟨RX3, TX3, 6, tyX3, rfl, inX3, tyX3_ok, nmX3, by decide, tM 135 (by decide +kernel) rfl, rfl, rfl, by decide⟩
theorem gf_X3_31 : FL "RunnerNet$Net" 31 3 0 false (.int) := ⟨RX3, TX3, 6, tyX3, rfl, inX3, tyX3_ok, nmX3, by decide, tM 130 (by decide +kernel) rfl, rfl, rfl, by decide⟩
theorem gf_X3_35 : FL "RunnerNet$Net" 35 3 1 false (.int) := ⟨RX3, TX3, 6, tyX3, rfl, inX3, tyX3_ok, nmX3, by decide, tM 131 (by decide +kernel) rfl, rfl, rfl, by decide⟩
theorem gf_X4_9 : FL "RunnerNet$Orders" 9 4 2 true (.array .int) := ⟨RX4, TX4, 5, tyX4, rfl, inX4, tyX4_ok, nmX4, by decide, tM 314 (by decide +kernel) rfl, rfl, rfl, by decide⟩
theorem gf_X4_15 : FL "RunnerNet$Orders" 15 4 3 true (.array .int) := ⟨RX4, TX4, 5, tyX4, rfl, inX4, tyX4_ok, nmX4, by decide, tM 315 (by decide +kernel) rfl, rfl, rfl, by decide⟩
theorem gf_X4_18 : FL "RunnerNet$Orders" 18 4 0 true (.object "RunnerNet$Net") := ⟨RX4, TX4, 5, tyX4, rfl, inX4, tyX4_ok, nmX4, by decide, tM 312 (by decide +kernel) rfl, rfl, rfl, by decide⟩
theorem gf_X4_22 : FL "RunnerNet$Orders" 22 4 1 true (.boolean) := ⟨RX4, TX4, 5, tyX4, rfl, inX4, tyX4_ok, nmX4, by decide, tM 313 (by decide +kernel) rfl, rfl, rfl, by decide⟩
theorem gf_X4_26 : FL "RunnerNet$Orders" 26 4 4 false (.int) := ⟨RX4, TX4, 5, tyX4, rfl, inX4, tyX4_ok, nmX4, by decide, tM 316 (by decide +kernel) rfl, rfl, rfl, by decide⟩
theorem gf_X5_7 : FL "RunnerNet$Play" 7 5 0 false (.boolean) := ⟨RX5, TX5, 6, tyX5, rfl, inX5, tyX5_ok, nmX5, by decide, tM 250 (by decide +kernel) rfl, rfl, rfl, by decide⟩
theorem gf_X5_13 : FL "RunnerNet$Play" 13 5 1 false (.int) := ⟨RX5, TX5, 6, tyX5, rfl, inX5, tyX5_ok, nmX5, by decide, tM 251 (by decide +kernel) rfl, rfl, rfl, by decide⟩
theorem gf_X5_17 : FL "RunnerNet$Play" 17 5 2 false (.int) := ⟨RX5, TX5, 6, tyX5, rfl, inX5, tyX5_ok, nmX5, by decide, tM 252 (by decide +kernel) rfl, rfl, rfl, by decide⟩
theorem gf_X5_20 : FL "RunnerNet$Play" 20 5 3 false (.int) := ⟨RX5, TX5, 6, tyX5, rfl, inX5, tyX5_ok, nmX5, by decide, tM 253 (by decide +kernel) rfl, rfl, rfl, by decide⟩
theorem gf_X5_23 : FL "RunnerNet$Play" 23 5 4 false (.int) := ⟨RX5, TX5, 6, tyX5, rfl, inX5, tyX5_ok, nmX5, by decide, tM 254 (by decide +kernel) rfl, rfl, rfl, by decide⟩
theorem gf_X5_26 : FL "RunnerNet$Play" 26 5 5 false (.int) := ⟨RX5, TX5, 6, tyX5, rfl, inX5, tyX5_ok, nmX5, by decide, tM 255 (by decide +kernel) rfl, rfl, rfl, by decide⟩
theorem gf_X6_9 : FL "RunnerNet$Settings" 9 6 0 true (.object "RunnerNet$Net") := ⟨RX6, TX6, 4, tyX6, rfl, inX6, tyX6_ok, nmX6, by decide, tM 197 (by decide +kernel) rfl, rfl, rfl, by decide⟩
theorem gf_X6_15 : FL "RunnerNet$Settings" 15 6 1 true (.int) := ⟨RX6, TX6, 4, tyX6, rfl, inX6, tyX6_ok, nmX6, by decide, tM 198 (by decide +kernel) rfl, rfl, rfl, by decide⟩
theorem gf_X6_19 : FL "RunnerNet$Settings" 19 6 2 true (.int) := ⟨RX6, TX6, 4, tyX6, rfl, inX6, tyX6_ok, nmX6, by decide, tM 199 (by decide +kernel) rfl, rfl, rfl, by decide⟩
theorem gf_X6_22 : FL "RunnerNet$Settings" 22 6 3 true (.array .int) := ⟨RX6, TX6, 4, tyX6, rfl, inX6, tyX6_ok, nmX6, by decide, tM 200 (by decide +kernel) rfl, rfl, rfl, by decide⟩
theorem gf_X7_11 : FL "RunnerNet$Text" 11 7 0 true (.array .int) := ⟨RX7, TX7, 9, tyX7, rfl, inX7, tyX7_ok, nmX7, by decide, tM 156 (by decide +kernel) rfl, rfl, rfl, by decide⟩
theorem gf_X7_15 : FL "RunnerNet$Text" 15 7 6 true (.array .int) := ⟨RX7, TX7, 9, tyX7, rfl, inX7, tyX7_ok, nmX7, by decide, tM 162 (by decide +kernel) rfl, rfl, rfl, by decide⟩
theorem gf_X7_18 : FL "RunnerNet$Text" 18 7 7 true (.array .int) := ⟨RX7, TX7, 9, tyX7, rfl, inX7, tyX7_ok, nmX7, by decide, tM 163 (by decide +kernel) rfl, rfl, rfl, by decide⟩
theorem gf_X7_21 : FL "RunnerNet$Text" 21 7 8 true (.array .int) := ⟨RX7, TX7, 9, tyX7, rfl, inX7, tyX7_ok, nmX7, by decide, tM 164 (by decide +kernel) rfl, rfl, rfl, by decide⟩
theorem gf_X7_24 : FL "RunnerNet$Text" 24 7 1 false (.int) := ⟨RX7, TX7, 9, tyX7, rfl, inX7, tyX7_ok, nmX7, by decide, tM 157 (by decide +kernel) rfl, rfl, rfl, by decide⟩
theorem gf_X7_30 : FL "RunnerNet$Text" 30 7 3 false (.int) := ⟨RX7, TX7, 9, tyX7, rfl, inX7, tyX7_ok, nmX7, by decide, tM 159 (by decide +kernel) rfl, rfl, rfl, by decide⟩
theorem gf_X7_33 : FL "RunnerNet$Text" 33 7 4 false (.int) := ⟨RX7, TX7, 9, tyX7, rfl, inX7, tyX7_ok, nmX7, by decide, tM 160 (by decide +kernel) rfl, rfl, rfl, by decide⟩
theorem gf_X7_36 : FL "RunnerNet$Text" 36 7 5 false (.int) := ⟨RX7, TX7, 9, tyX7, rfl, inX7, tyX7_ok, nmX7, by decide, tM 161 (by decide +kernel) rfl, rfl, rfl, by decide⟩
theorem gf_X7_43 : FL "RunnerNet$Text" 43 7 2 false (.int) := ⟨RX7, TX7, 9, tyX7, rfl, inX7, tyX7_ok, nmX7, by decide, tM 158 (by decide +kernel) rfl, rfl, rfl, by decide⟩
theorem gf_X8_11 : FL "RunnerNet$Unseen" 11 8 1 true (.array .int) := ⟨RX8, TX8, 10, tyX8, rfl, inX8, tyX8_ok, nmX8, by decide, tM 276 (by decide +kernel) rfl, rfl, rfl, by decide⟩
theorem gf_X8_15 : FL "RunnerNet$Unseen" 15 8 2 true (.array .int) := ⟨RX8, TX8, 10, tyX8, rfl, inX8, tyX8_ok, nmX8, by decide, tM 277 (by decide +kernel) rfl, rfl, rfl, by decide⟩
theorem gf_X8_18 : FL "RunnerNet$Unseen" 18 8 3 true (.array .int) := ⟨RX8, TX8, 10, tyX8, rfl, inX8, tyX8_ok, nmX8, by decide, tM 278 (by decide +kernel) rfl, rfl, rfl, by decide⟩
theorem gf_X8_21 : FL "RunnerNet$Unseen" 21 8 0 true (.object "RunnerNet$Net") := ⟨RX8, TX8, 10, tyX8, rfl, inX8, tyX8_ok, nmX8, by decide, tM 275 (by decide +kernel) rfl, rfl, rfl, by decide⟩
theorem gf_X8_25 : FL "RunnerNet$Unseen" 25 8 4 false (.object "RunnerNet$Settings") := ⟨RX8, TX8, 10, tyX8, rfl, inX8, tyX8_ok, nmX8, by decide, tM 279 (by decide +kernel) rfl, rfl, rfl, by decide⟩
theorem gf_X8_29 : FL "RunnerNet$Unseen" 29 8 6 false (.int) := ⟨RX8, TX8, 10, tyX8, rfl, inX8, tyX8_ok, nmX8, by decide, tM 281 (by decide +kernel) rfl, rfl, rfl, by decide⟩
theorem gf_X8_33 : FL "RunnerNet$Unseen" 33 8 7 false (.int) := ⟨RX8, TX8, 10, tyX8, rfl, inX8, tyX8_ok, nmX8, by decide, tM 282 (by decide +kernel) rfl, rfl, rfl, by decide⟩
theorem gf_X8_36 : FL "RunnerNet$Unseen" 36 8 8 false (.int) := ⟨RX8, TX8, 10, tyX8, rfl, inX8, tyX8_ok, nmX8, by decide, tM 283 (by decide +kernel) rfl, rfl, rfl, by decide⟩
theorem gf_X8_49 : FL "RunnerNet$Unseen" 49 8 9 false (.int) := ⟨RX8, TX8, 10, tyX8, rfl, inX8, tyX8_ok, nmX8, by decide, tM 284 (by decide +kernel) rfl, rfl, rfl, by decide⟩
theorem gf_X8_58 : FL "RunnerNet$Unseen" 58 8 5 false (.int) := ⟨RX8, TX8, 10, tyX8, rfl, inX8, tyX8_ok, nmX8, by decide, tM 280 (by decide +kernel) rfl, rfl, rfl, by decide⟩
theorem gf_X10_7 : FL "RunnerNetModel" 7 10 0 false (.int) := ⟨RX10, TX10, 41, tyX10, rfl, inX10, tyX10_ok, nmX10, by decide, tM 1055 (by decide +kernel) rfl, rfl, rfl, by decide⟩
theorem gf_X10_13 : FL "RunnerNetModel" 13 10 1 true (.array .int) := ⟨RX10, TX10, 41, tyX10, rfl, inX10, tyX10_ok, nmX10, by decide, tM 1056 (by decide +kernel) rfl, rfl, rfl, by decide⟩
theorem gf_X10_17 : FL "RunnerNetModel" 17 10 3 true (.array .int) := ⟨RX10, TX10, 41, tyX10, rfl, inX10, tyX10_ok, nmX10, by decide, tM 1058 (by decide +kernel) rfl, rfl, rfl, by decide⟩
theorem gf_X10_20 : FL "RunnerNetModel" 20 10 12 true (.array .int) := ⟨RX10, TX10, 41, tyX10, rfl, inX10, tyX10_ok, nmX10, by decide, tM 1067 (by decide +kernel) rfl, rfl, rfl, by decide⟩
theorem gf_X10_23 : FL "RunnerNetModel" 23 10 13 true (.array .boolean) := ⟨RX10, TX10, 41, tyX10, rfl, inX10, tyX10_ok, nmX10, by decide, tM 1068 (by decide +kernel) rfl, rfl, rfl, by decide⟩
theorem gf_X10_28 : FL "RunnerNetModel" 28 10 14 true (.array .int) := ⟨RX10, TX10, 41, tyX10, rfl, inX10, tyX10_ok, nmX10, by decide, tM 1069 (by decide +kernel) rfl, rfl, rfl, by decide⟩
theorem gf_X10_31 : FL "RunnerNetModel" 31 10 15 true (.array .int) := ⟨RX10, TX10, 41, tyX10, rfl, inX10, tyX10_ok, nmX10, by decide, tM 1070 (by decide +kernel) rfl, rfl, rfl, by decide⟩
theorem gf_X10_34 : FL "RunnerNetModel" 34 10 16 true (.array .int) := ⟨RX10, TX10, 41, tyX10, rfl, inX10, tyX10_ok, nmX10, by decide, tM 1071 (by decide +kernel) rfl, rfl, rfl, by decide⟩
theorem gf_X10_37 : FL "RunnerNetModel" 37 10 17 true (.array .int) := ⟨RX10, TX10, 41, tyX10, rfl, inX10, tyX10_ok, nmX10, by decide, tM 1072 (by decide +kernel) rfl, rfl, rfl, by decide⟩
theorem gf_X10_40 : FL "RunnerNetModel" 40 10 18 true (.array .int) := ⟨RX10, TX10, 41, tyX10, rfl, inX10, tyX10_ok, nmX10, by decide, tM 1073 (by decide +kernel) rfl, rfl, rfl, by decide⟩
theorem gf_X10_43 : FL "RunnerNetModel" 43 10 25 true (.array .int) := ⟨RX10, TX10, 41, tyX10, rfl, inX10, tyX10_ok, nmX10, by decide, tM 1080 (by decide +kernel) rfl, rfl, rfl, by decide⟩
theorem gf_X10_46 : FL "RunnerNetModel" 46 10 26 true (.array .int) := ⟨RX10, TX10, 41, tyX10, rfl, inX10, tyX10_ok, nmX10, by decide, tM 1081 (by decide +kernel) rfl, rfl, rfl, by decide⟩
theorem gf_X10_49 : FL "RunnerNetModel" 49 10 28 true (.array .boolean) := ⟨RX10, TX10, 41, tyX10, rfl, inX10, tyX10_ok, nmX10, by decide, tM 1083 (by decide +kernel) rfl, rfl, rfl, by decide⟩
theorem gf_X10_52 : FL "RunnerNetModel" 52 10 29 true (.array .int) := ⟨RX10, TX10, 41, tyX10, rfl, inX10, tyX10_ok, nmX10, by decide, tM 1084 (by decide +kernel) rfl, rfl, rfl, by decide⟩
theorem gf_X10_55 : FL "RunnerNetModel" 55 10 30 true (.array .int) := ⟨RX10, TX10, 41, tyX10, rfl, inX10, tyX10_ok, nmX10, by decide, tM 1085 (by decide +kernel) rfl, rfl, rfl, by decide⟩
theorem gf_X10_58 : FL "RunnerNetModel" 58 10 31 true (.array .int) := ⟨RX10, TX10, 41, tyX10, rfl, inX10, tyX10_ok, nmX10, by decide, tM 1086 (by decide +kernel) rfl, rfl, rfl, by decide⟩
theorem gf_X10_61 : FL "RunnerNetModel" 61 10 32 true (.array .int) := ⟨RX10, TX10, 41, tyX10, rfl, inX10, tyX10_ok, nmX10, by decide, tM 1087 (by decide +kernel) rfl, rfl, rfl, by decide⟩
theorem gf_X10_64 : FL "RunnerNetModel" 64 10 33 true (.array .int) := ⟨RX10, TX10, 41, tyX10, rfl, inX10, tyX10_ok, nmX10, by decide, tM 1088 (by decide +kernel) rfl, rfl, rfl, by decide⟩
theorem gf_X10_67 : FL "RunnerNetModel" 67 10 34 true (.array .int) := ⟨RX10, TX10, 41, tyX10, rfl, inX10, tyX10_ok, nmX10, by decide, tM 1089 (by decide +kernel) rfl, rfl, rfl, by decide⟩
theorem gf_X10_71 : FL "RunnerNetModel" 71 10 37 true (.array .boolean) := ⟨RX10, TX10, 41, tyX10, rfl, inX10, tyX10_ok, nmX10, by decide, tM 1092 (by decide +kernel) rfl, rfl, rfl, by decide⟩
theorem gf_X10_74 : FL "RunnerNetModel" 74 10 38 true (.array .boolean) := ⟨RX10, TX10, 41, tyX10, rfl, inX10, tyX10_ok, nmX10, by decide, tM 1093 (by decide +kernel) rfl, rfl, rfl, by decide⟩
theorem gf_X10_77 : FL "RunnerNetModel" 77 10 39 true (.array .boolean) := ⟨RX10, TX10, 41, tyX10, rfl, inX10, tyX10_ok, nmX10, by decide, tM 1094 (by decide +kernel) rfl, rfl, rfl, by decide⟩
theorem gf_X10_80 : FL "RunnerNetModel" 80 10 40 true (.array .boolean) := ⟨RX10, TX10, 41, tyX10, rfl, inX10, tyX10_ok, nmX10, by decide, tM 1095 (by decide +kernel) rfl, rfl, rfl, by decide⟩
theorem gf_X10_87 : FL "RunnerNetModel" 87 10 36 false (.boolean) := ⟨RX10, TX10, 41, tyX10, rfl, inX10, tyX10_ok, nmX10, by decide, tM 1091 (by decide +kernel) rfl, rfl, rfl, by decide⟩
theorem gf_X10_91 : FL "RunnerNetModel" 91 10 24 false (.boolean) := ⟨RX10, TX10, 41, tyX10, rfl, inX10, tyX10_ok, nmX10, by decide, tM 1079 (by decide +kernel) rfl, rfl, rfl, by decide⟩
theorem gf_X10_94 : FL "RunnerNetModel" 94 10 23 false (.int) := ⟨RX10, TX10, 41, tyX10, rfl, inX10, tyX10_ok, nmX10, by decide, tM 1078 (by decide +kernel) rfl, rfl, rfl, by decide⟩
theorem gf_X10_97 : FL "RunnerNetModel" 97 10 2 false (.int) := ⟨RX10, TX10, 41, tyX10, rfl, inX10, tyX10_ok, nmX10, by decide, tM 1057 (by decide +kernel) rfl, rfl, rfl, by decide⟩
theorem gf_X10_102 : FL "RunnerNetModel" 102 10 4 false (.int) := ⟨RX10, TX10, 41, tyX10, rfl, inX10, tyX10_ok, nmX10, by decide, tM 1059 (by decide +kernel) rfl, rfl, rfl, by decide⟩
theorem gf_X10_105 : FL "RunnerNetModel" 105 10 5 false (.int) := ⟨RX10, TX10, 41, tyX10, rfl, inX10, tyX10_ok, nmX10, by decide, tM 1060 (by decide +kernel) rfl, rfl, rfl, by decide⟩
theorem gf_X10_108 : FL "RunnerNetModel" 108 10 7 false (.int) := ⟨RX10, TX10, 41, tyX10, rfl, inX10, tyX10_ok, nmX10, by decide, tM 1062 (by decide +kernel) rfl, rfl, rfl, by decide⟩
theorem gf_X10_111 : FL "RunnerNetModel" 111 10 8 false (.int) := ⟨RX10, TX10, 41, tyX10, rfl, inX10, tyX10_ok, nmX10, by decide, tM 1063 (by decide +kernel) rfl, rfl, rfl, by decide⟩
theorem gf_X10_116 : FL "RunnerNetModel" 116 10 6 false (.long) := ⟨RX10, TX10, 41, tyX10, rfl, inX10, tyX10_ok, nmX10, by decide, tM 1061 (by decide +kernel) rfl, rfl, rfl, by decide⟩
theorem gf_X10_130 : FL "RunnerNetModel" 130 10 9 false (.int) := ⟨RX10, TX10, 41, tyX10, rfl, inX10, tyX10_ok, nmX10, by decide, tM 1064 (by decide +kernel) rfl, rfl, rfl, by decide⟩
theorem gf_X10_149 : FL "RunnerNetModel" 149 10 10 false (.int) := ⟨RX10, TX10, 41, tyX10, rfl, inX10, tyX10_ok, nmX10, by decide, tM 1065 (by decide +kernel) rfl, rfl, rfl, by decide⟩
theorem gf_X10_152 : FL "RunnerNetModel" 152 10 11 false (.int) := ⟨RX10, TX10, 41, tyX10, rfl, inX10, tyX10_ok, nmX10, by decide, tM 1066 (by decide +kernel) rfl, rfl, rfl, by decide⟩
theorem gf_X10_238 : FL "RunnerNetModel" 238 10 19 false (.int) := ⟨RX10, TX10, 41, tyX10, rfl, inX10, tyX10_ok, nmX10, by decide, tM 1074 (by decide +kernel) rfl, rfl, rfl, by decide⟩
theorem gf_X10_241 : FL "RunnerNetModel" 241 10 20 false (.int) := ⟨RX10, TX10, 41, tyX10, rfl, inX10, tyX10_ok, nmX10, by decide, tM 1075 (by decide +kernel) rfl, rfl, rfl, by decide⟩
theorem gf_X10_244 : FL "RunnerNetModel" 244 10 21 false (.int) := ⟨RX10, TX10, 41, tyX10, rfl, inX10, tyX10_ok, nmX10, by decide, tM 1076 (by decide +kernel) rfl, rfl, rfl, by decide⟩
theorem gf_X10_247 : FL "RunnerNetModel" 247 10 22 false (.int) := ⟨RX10, TX10, 41, tyX10, rfl, inX10, tyX10_ok, nmX10, by decide, tM 1077 (by decide +kernel) rfl, rfl, rfl, by decide⟩
theorem gf_X10_259 : FL "RunnerNetModel" 259 10 27 false (.int) := ⟨RX10, TX10, 41, tyX10, rfl, inX10, tyX10_ok, nmX10, by decide, tM 1082 (by decide +kernel) rfl, rfl, rfl, by decide⟩
theorem gf_X10_295 : FL "RunnerNetModel" 295 10 35 false (.int) := ⟨RX10, TX10, 41, tyX10, rfl, inX10, tyX10_ok, nmX10, by decide, tM 1090 (by decide +kernel) rfl, rfl, rfl, by decide⟩
theorem w_602 : Cond.constant "RunnerNet$Chase" 71 (1048576) ∈ tT := tM 602 (by decide +kernel) rfl
theorem w_706 : Cond.constant "java/lang/Integer" 265 (1431655765) ∈ tT := tM 706 (by decide +kernel) rfl
theorem w_707 : Cond.constant "java/lang/Integer" 266 (858993459) ∈ tT := tM 707 (by decide +kernel) rfl
theorem w_708 : Cond.constant "java/lang/Integer" 267 (252645135) ∈ tT := tM 708 (by decide +kernel) rfl
theorem w_993 : Cond.constantLong "RunnerNet$Guards" 64 (-1) ∈ tT := tM 993 (by decide +kernel) rfl
theorem w_401 : Cond.constantLong "RunnerNet$Text" 28 (255) ∈ tT := tM 401 (by decide +kernel) rfl
theorem w_1187 : Cond.constantLong "RunnerNetModel" 100 (255) ∈ tT := tM 1187 (by decide +kernel) rfl
theorem w_1208 : Cond.constantLong "RunnerNetModel" 114 (-2) ∈ tT := tM 1208 (by decide +kernel) rfl
theorem w_1209 : Cond.constantLong "RunnerNetModel" 120 (27) ∈ tT := tM 1209 (by decide +kernel) rfl
theorem w_1210 : Cond.constantLong "RunnerNetModel" 122 (96) ∈ tT := tM 1210 (by decide +kernel) rfl
theorem w_1211 : Cond.constantLong "RunnerNetModel" 124 (-4) ∈ tT := tM 1211 (by decide +kernel) rfl
theorem w_1212 : Cond.constantLong "RunnerNetModel" 126 (-1) ∈ tT := tM 1212 (by decide +kernel) rfl
theorem w_1213 : Cond.constantLong "RunnerNetModel" 128 (-3) ∈ tT := tM 1213 (by decide +kernel) rfl
theorem w_1214 : Cond.constantLong "RunnerNetModel" 140 (365260) ∈ tT := tM 1214 (by decide +kernel) rfl
theorem w_1215 : Cond.constantLong "RunnerNetModel" 142 (16819) ∈ tT := tM 1215 (by decide +kernel) rfl
theorem w_1216 : Cond.constantLong "RunnerNetModel" 144 (10361) ∈ tT := tM 1216 (by decide +kernel) rfl
theorem w_1035 : Cond.constantLong "java/lang/Long" 314 (6148914691236517205) ∈ tT := tM 1035 (by decide +kernel) rfl
theorem w_1036 : Cond.constantLong "java/lang/Long" 316 (3689348814741910323) ∈ tT := tM 1036 (by decide +kernel) rfl
theorem w_1037 : Cond.constantLong "java/lang/Long" 318 (1085102592571150095) ∈ tT := tM 1037 (by decide +kernel) rfl
theorem w_1494 : Cond.fieldLink "java/lang/String" 9 "java/lang/String" "value" "[B" ∈ tT := tM 1494 (by decide +kernel) rfl
theorem w_1495 : Cond.fieldLink "java/lang/String" 15 "java/lang/String" "coder" "B" ∈ tT := tM 1495 (by decide +kernel) rfl
theorem w_462 : Cond.fieldLink "java/lang/String" 38 "java/lang/String" "COMPACT_STRINGS" "Z" ∈ tT := tM 462 (by decide +kernel) rfl
theorem w_478 : Cond.fieldLink "java/lang/String" 1053 "jdk/internal/util/Preconditions" "SIOOBE_FORMATTER" "Ljava/util/function/BiFunction;" ∈ tT := tM 478 (by decide +kernel) rfl
theorem w_991 : Cond.fieldLink "RunnerNet$Guards" 61 "RunnerNet$Guards" "LACKS" "[J" ∈ tT := tM 991 (by decide +kernel) rfl
theorem ml_X9_87 : Cond.methodLink "RunnerNet" 87 yX7_append ∈ tT := tM 397 (by decide +kernel) rfl
theorem ml_X9_91 : Cond.methodLink "RunnerNet" 91 yX7_length ∈ tT := tM 402 (by decide +kernel) rfl
theorem ml_X9_95 : Cond.methodLink "RunnerNet" 95 yX7_drop ∈ tT := tM 410 (by decide +kernel) rfl
theorem ml_X9_98 : Cond.methodLink "RunnerNet" 98 yX3_places ∈ tT := tM 418 (by decide +kernel) rfl
theorem ml_X9_101 : Cond.methodLink "RunnerNet" 101 yX7_read ∈ tT := tM 422 (by decide +kernel) rfl
theorem ml_X9_105 : Cond.methodLink "RunnerNet" 105 yX7_layOn ∈ tT := tM 513 (by decide +kernel) rfl
theorem ml_X9_108 : Cond.methodLink "RunnerNet" 108 yX5_end ∈ tT := tM 527 (by decide +kernel) rfl
theorem ml_X9_111 : Cond.methodLink "RunnerNet" 111 yX3_known ∈ tT := tM 535 (by decide +kernel) rfl
theorem ml_X9_115 : Cond.methodLink "RunnerNet" 115 yX3_set ∈ tT := tM 536 (by decide +kernel) rfl
theorem ml_X9_119 : Cond.methodLink "RunnerNet" 119 yX3_settle ∈ tT := tM 537 (by decide +kernel) rfl
theorem ml_X9_122 : Cond.methodLink "RunnerNet" 122 yX3_outOf ∈ tT := tM 538 (by decide +kernel) rfl
theorem ml_X9_125 : Cond.methodLink "RunnerNet" 125 yX9_has ∈ tT := tM 542 (by decide +kernel) rfl
theorem ml_X9_129 : Cond.methodLink "RunnerNet" 129 yX3_distance ∈ tT := tM 553 (by decide +kernel) rfl
theorem ml_X9_133 : Cond.methodLink "RunnerNet" 133 yX9_refuseStand ∈ tT := tM 566 (by decide +kernel) rfl
theorem ml_X9_137 : Cond.methodLink "RunnerNet" 137 yX9_chase ∈ tT := tM 586 (by decide +kernel) rfl
theorem ml_X9_141 : Cond.methodLink "RunnerNet" 141 yX9_settings ∈ tT := tM 573 (by decide +kernel) rfl
theorem ml_X9_144 : Cond.methodLink "RunnerNet" 144 yX6_told ∈ tT := tM 581 (by decide +kernel) rfl
theorem ml_X9_147 : Cond.methodLink "RunnerNet" 147 yX0_roundsFrom ∈ tT := tM 651 (by decide +kernel) rfl
theorem ml_X9_150 : Cond.methodLink "RunnerNet" 150 yX9_isChase ∈ tT := tM 570 (by decide +kernel) rfl
theorem ml_X9_153 : Cond.methodLink "RunnerNet" 153 yX0_mostFrom ∈ tT := tM 663 (by decide +kernel) rfl
theorem ml_X9_156 : Cond.methodLink "RunnerNet" 156 yX0_bestSetting ∈ tT := tM 676 (by decide +kernel) rfl
theorem ml_X9_159 : Cond.methodLink "RunnerNet" 159 yX0_countEndless ∈ tT := tM 699 (by decide +kernel) rfl
theorem ml_X9_162 : Cond.methodLink "RunnerNet" 162 yX6_holds ∈ tT := tM 713 (by decide +kernel) rfl
theorem ml_X9_165 : Cond.methodLink "RunnerNet" 165 yX0_bestMove ∈ tT := tM 719 (by decide +kernel) rfl
theorem ml_X9_168 : Cond.methodLink "RunnerNet" 168 yX0_bestFlight ∈ tT := tM 739 (by decide +kernel) rfl
theorem ml_X9_171 : Cond.methodLink "RunnerNet" 171 yX6_rising ∈ tT := tM 747 (by decide +kernel) rfl
theorem ml_X9_174 : Cond.methodLink "RunnerNet" 174 yX5_begin ∈ tT := tM 748 (by decide +kernel) rfl
theorem ml_X9_178 : Cond.methodLink "RunnerNet" 178 yX5_isOn ∈ tT := tM 756 (by decide +kernel) rfl
theorem ml_X9_182 : Cond.methodLink "RunnerNet" 182 yX9_isCaught ∈ tT := tM 760 (by decide +kernel) rfl
theorem ml_X9_185 : Cond.methodLink "RunnerNet" 185 yX5_hunters ∈ tT := tM 764 (by decide +kernel) rfl
theorem ml_X9_188 : Cond.methodLink "RunnerNet" 188 yX9_settingBehind ∈ tT := tM 776 (by decide +kernel) rfl
theorem ml_X9_191 : Cond.methodLink "RunnerNet" 191 yX5_place ∈ tT := tM 772 (by decide +kernel) rfl
theorem ml_X9_194 : Cond.methodLink "RunnerNet" 194 yX9_placeBehind ∈ tT := tM 785 (by decide +kernel) rfl
theorem ml_X9_197 : Cond.methodLink "RunnerNet" 197 yX5_go ∈ tT := tM 790 (by decide +kernel) rfl
theorem ml_X9_201 : Cond.methodLink "RunnerNet" 201 yX5_setting ∈ tT := tM 768 (by decide +kernel) rfl
theorem ml_X9_204 : Cond.methodLink "RunnerNet" 204 yX5_gone ∈ tT := tM 798 (by decide +kernel) rfl
theorem ml_X9_207 : Cond.methodLink "RunnerNet" 207 yX3_holdsAll ∈ tT := tM 806 (by decide +kernel) rfl
theorem ml_X9_210 : Cond.methodLink "RunnerNet" 210 yX6_placesOf ∈ tT := tM 811 (by decide +kernel) rfl
theorem ml_X9_213 : Cond.methodLink "RunnerNet" 213 yX3_leftBehind ∈ tT := tM 812 (by decide +kernel) rfl
theorem ml_X9_216 : Cond.methodLink "RunnerNet" 216 yX8_search ∈ tT := tM 820 (by decide +kernel) rfl
theorem ml_X9_220 : Cond.methodLink "RunnerNet" 220 yX8_length ∈ tT := tM 855 (by decide +kernel) rfl
theorem ml_X9_221 : Cond.methodLink "RunnerNet" 221 yX8_settingAt ∈ tT := tM 859 (by decide +kernel) rfl
theorem ml_X9_224 : Cond.methodLink "RunnerNet" 224 yX4_hunters ∈ tT := tM 871 (by decide +kernel) rfl
theorem ml_X9_225 : Cond.methodLink "RunnerNet" 225 yX4_placeAt ∈ tT := tM 906 (by decide +kernel) rfl
theorem ml_X9_228 : Cond.methodLink "RunnerNet" 228 yX1_takenAway ∈ tT := tM 915 (by decide +kernel) rfl
theorem ml_X9_231 : Cond.methodLink "RunnerNet" 231 yX1_leastSet ∈ tT := tM 939 (by decide +kernel) rfl
theorem ml_X9_235 : Cond.methodLink "RunnerNet" 235 yX9_isWatch ∈ tT := tM 953 (by decide +kernel) rfl
theorem ml_X9_238 : Cond.methodLink "RunnerNet" 238 yX2_holdsOut ∈ tT := tM 957 (by decide +kernel) rfl
theorem ml_X9_241 : Cond.methodLink "RunnerNet" 241 yX2_leastSet ∈ tT := tM 1014 (by decide +kernel) rfl
theorem ml_X9_243 : Cond.methodLink "RunnerNet" 243 yJ6_bitCount_0f7a4 ∈ tT := tM 1019 (by decide +kernel) rfl
theorem ml_X9_248 : Cond.methodLink "RunnerNet" 248 yX2_countSets ∈ tT := tM 1020 (by decide +kernel) rfl
theorem ml_X9_251 : Cond.methodLink "RunnerNet" 251 yX2_leastAnswer ∈ tT := tM 1028 (by decide +kernel) rfl
theorem ml_X9_254 : Cond.methodLink "RunnerNet" 254 yX3_pairs ∈ tT := tM 1042 (by decide +kernel) rfl
theorem ml_X9_257 : Cond.methodLink "RunnerNet" 257 Lib.Math.min.name ∈ tT := tM 577 (by decide +kernel) rfl
theorem ml_X9_262 : Cond.methodLink "RunnerNet" 262 Lib.Math.max.name ∈ tT := tM 578 (by decide +kernel) rfl
theorem ml_X9_265 : Cond.methodLink "RunnerNet" 265 yX0_solve ∈ tT := tM 590 (by decide +kernel) rfl
theorem ml_X9_268 : Cond.methodLink "RunnerNet" 268 yX5_speed ∈ tT := tM 780 (by decide +kernel) rfl
theorem ml_X9_271 : Cond.methodLink "RunnerNet" 271 yX6_canStep ∈ tT := tM 784 (by decide +kernel) rfl
theorem ml_X9_274 : Cond.methodLink "RunnerNet" 274 yX0_flights ∈ tT := tM 789 (by decide +kernel) rfl
theorem ml_X0_23 : Cond.methodLink "RunnerNet$Chase" 23 yX6_size ∈ tT := tM 215 (by decide +kernel) rfl
theorem ml_X0_45 : Cond.methodLink "RunnerNet$Chase" 45 yX3_changes ∈ tT := tM 594 (by decide +kernel) rfl
theorem ml_X0_50 : Cond.methodLink "RunnerNet$Chase" 50 yX0_begin ∈ tT := tM 598 (by decide +kernel) rfl
theorem ml_X0_53 : Cond.methodLink "RunnerNet$Chase" 53 yX0_trap ∈ tT := tM 615 (by decide +kernel) rfl
theorem ml_X0_56 : Cond.methodLink "RunnerNet$Chase" 56 yX6_hunters ∈ tT := tM 610 (by decide +kernel) rfl
theorem ml_X0_59 : Cond.methodLink "RunnerNet$Chase" 59 yX0_widen ∈ tT := tM 632 (by decide +kernel) rfl
theorem ml_X0_63 : Cond.methodLink "RunnerNet$Chase" 63 yX0_note ∈ tT := tM 647 (by decide +kernel) rfl
theorem ml_X0_67 : Cond.methodLink "RunnerNet$Chase" 67 yX0_leftAt ∈ tT := tM 655 (by decide +kernel) rfl
theorem ml_X0_72 : Cond.methodLink "RunnerNet$Chase" 72 yX3_all ∈ tT := tM 627 (by decide +kernel) rfl
theorem ml_X0_75 : Cond.methodLink "RunnerNet$Chase" 75 yX0_mostAmong ∈ tT := tM 667 (by decide +kernel) rfl
theorem ml_X0_78 : Cond.methodLink "RunnerNet$Chase" 78 yX6_isSetting ∈ tT := tM 680 (by decide +kernel) rfl
theorem ml_X0_81 : Cond.methodLink "RunnerNet$Chase" 81 yJ6_bitCount_0f7a4 ∈ tT := tM 703 (by decide +kernel) rfl
theorem ml_X0_87 : Cond.methodLink "RunnerNet$Chase" 87 yX6_rising ∈ tT := tM 723 (by decide +kernel) rfl
theorem ml_X0_90 : Cond.methodLink "RunnerNet$Chase" 90 yX6_canStep ∈ tT := tM 724 (by decide +kernel) rfl
theorem ml_X0_94 : Cond.methodLink "RunnerNet$Chase" 94 yX6_holds ∈ tT := tM 729 (by decide +kernel) rfl
theorem ml_X0_97 : Cond.methodLink "RunnerNet$Chase" 97 yX0_flights ∈ tT := tM 730 (by decide +kernel) rfl
theorem ml_X0_100 : Cond.methodLink "RunnerNet$Chase" 100 yX3_places ∈ tT := tM 636 (by decide +kernel) rfl
theorem ml_X0_106 : Cond.methodLink "RunnerNet$Chase" 106 yX3_aheadOf ∈ tT := tM 734 (by decide +kernel) rfl
theorem ml_X0_109 : Cond.methodLink "RunnerNet$Chase" 109 yX6_placesOf ∈ tT := tM 606 (by decide +kernel) rfl
theorem ml_X0_112 : Cond.methodLink "RunnerNet$Chase" 112 Lib.Math.max.name ∈ tT := tM 671 (by decide +kernel) rfl
theorem ml_X0_117 : Cond.methodLink "RunnerNet$Chase" 117 yJ7_fill_53178 ∈ tT := tM 603 (by decide +kernel) rfl
theorem ml_X0_123 : Cond.methodLink "RunnerNet$Chase" 123 yX6_figure ∈ tT := tM 614 (by decide +kernel) rfl
theorem ml_X0_126 : Cond.methodLink "RunnerNet$Chase" 126 yX6_isRow ∈ tT := tM 619 (by decide +kernel) rfl
theorem ml_X0_129 : Cond.methodLink "RunnerNet$Chase" 129 yX3_behindOf ∈ tT := tM 628 (by decide +kernel) rfl
theorem ml_X0_132 : Cond.methodLink "RunnerNet$Chase" 132 yX3_outOf ∈ tT := tM 637 (by decide +kernel) rfl
theorem ml_X0_135 : Cond.methodLink "RunnerNet$Chase" 135 yX0_joinRows ∈ tT := tM 639 (by decide +kernel) rfl
theorem ml_X0_139 : Cond.methodLink "RunnerNet$Chase" 139 Lib.Math.min.name ∈ tT := tM 643 (by decide +kernel) rfl
theorem ml_X0_142 : Cond.methodLink "RunnerNet$Chase" 142 arraycopyName ∈ tT := tM 644 (by decide +kernel) rfl
theorem ml_X1_15 : Cond.methodLink "RunnerNet$Covers" 15 yX3_all ∈ tT := tM 919 (by decide +kernel) rfl
theorem ml_X1_21 : Cond.methodLink "RunnerNet$Covers" 21 yX1_leastCovered ∈ tT := tM 920 (by decide +kernel) rfl
theorem ml_X1_25 : Cond.methodLink "RunnerNet$Covers" 25 yJ6_bitCount_0f7a4 ∈ tT := tM 934 (by decide +kernel) rfl
theorem ml_X1_30 : Cond.methodLink "RunnerNet$Covers" 30 yX3_places ∈ tT := tM 924 (by decide +kernel) rfl
theorem ml_X1_37 : Cond.methodLink "RunnerNet$Covers" 37 yX1_isCovered ∈ tT := tM 926 (by decide +kernel) rfl
theorem ml_X1_40 : Cond.methodLink "RunnerNet$Covers" 40 yX3_bothWays ∈ tT := tM 930 (by decide +kernel) rfl
theorem ml_X1_43 : Cond.methodLink "RunnerNet$Covers" 43 yX3_aheadOf ∈ tT := tM 943 (by decide +kernel) rfl
theorem ml_X1_46 : Cond.methodLink "RunnerNet$Covers" 46 yX1_touchesAll ∈ tT := tM 944 (by decide +kernel) rfl
theorem ml_X1_50 : Cond.methodLink "RunnerNet$Covers" 50 yX3_outOf ∈ tT := tM 948 (by decide +kernel) rfl
theorem ml_X2_29 : Cond.methodLink "RunnerNet$Guards" 29 yX2_solve ∈ tT := tM 961 (by decide +kernel) rfl
theorem ml_X2_32 : Cond.methodLink "RunnerNet$Guards" 32 yX2_isSafe ∈ tT := tM 998 (by decide +kernel) rfl
theorem ml_X2_36 : Cond.methodLink "RunnerNet$Guards" 36 yX3_all ∈ tT := tM 973 (by decide +kernel) rfl
theorem ml_X2_42 : Cond.methodLink "RunnerNet$Guards" 42 yJ6_bitCount_0f7a4 ∈ tT := tM 1018 (by decide +kernel) rfl
theorem ml_X2_48 : Cond.methodLink "RunnerNet$Guards" 48 yX2_answersIn ∈ tT := tM 1006 (by decide +kernel) rfl
theorem ml_X2_52 : Cond.methodLink "RunnerNet$Guards" 52 yJ13_bitCount_95d88 ∈ tT := tM 1032 (by decide +kernel) rfl
theorem ml_X2_57 : Cond.methodLink "RunnerNet$Guards" 57 yX2_having ∈ tT := tM 988 (by decide +kernel) rfl
theorem ml_X2_66 : Cond.methodLink "RunnerNet$Guards" 66 yX3_changes ∈ tT := tM 965 (by decide +kernel) rfl
theorem ml_X2_69 : Cond.methodLink "RunnerNet$Guards" 69 yJ7_fill_d0a16 ∈ tT := tM 966 (by decide +kernel) rfl
theorem ml_X2_75 : Cond.methodLink "RunnerNet$Guards" 75 yX2_moveAlone ∈ tT := tM 969 (by decide +kernel) rfl
theorem ml_X2_78 : Cond.methodLink "RunnerNet$Guards" 78 yX2_moveTogether ∈ tT := tM 980 (by decide +kernel) rfl
theorem ml_X2_81 : Cond.methodLink "RunnerNet$Guards" 81 yX2_put ∈ tT := tM 977 (by decide +kernel) rfl
theorem ml_X2_85 : Cond.methodLink "RunnerNet$Guards" 85 yX2_dropUnsafe ∈ tT := tM 994 (by decide +kernel) rfl
theorem ml_X2_89 : Cond.methodLink "RunnerNet$Guards" 89 yX2_answersAll ∈ tT := tM 1002 (by decide +kernel) rfl
theorem ml_X2_92 : Cond.methodLink "RunnerNet$Guards" 92 yX3_places ∈ tT := tM 974 (by decide +kernel) rfl
theorem ml_X2_99 : Cond.methodLink "RunnerNet$Guards" 99 yX3_outOf ∈ tT := tM 976 (by decide +kernel) rfl
theorem ml_X2_102 : Cond.methodLink "RunnerNet$Guards" 102 yX2_addPlace ∈ tT := tM 984 (by decide +kernel) rfl
theorem ml_X3_38 : Cond.methodLink "RunnerNet$Net" 38 yX3_all ∈ tT := tM 810 (by decide +kernel) rfl
theorem ml_X3_42 : Cond.methodLink "RunnerNet$Net" 42 yX3_known ∈ tT := tM 522 (by decide +kernel) rfl
theorem ml_X3_46 : Cond.methodLink "RunnerNet$Net" 46 yX3_aheadOf ∈ tT := tM 558 (by decide +kernel) rfl
theorem ml_X3_54 : Cond.methodLink "RunnerNet$Net" 54 yJ6_bitCount_0f7a4 ∈ tT := tM 1046 (by decide +kernel) rfl
theorem ml_X4_30 : Cond.methodLink "RunnerNet$Orders" 30 yX4_solve ∈ tT := tM 875 (by decide +kernel) rfl
theorem ml_X4_33 : Cond.methodLink "RunnerNet$Orders" 33 yX3_known ∈ tT := tM 910 (by decide +kernel) rfl
theorem ml_X4_39 : Cond.methodLink "RunnerNet$Orders" 39 yX3_changes ∈ tT := tM 879 (by decide +kernel) rfl
theorem ml_X4_43 : Cond.methodLink "RunnerNet$Orders" 43 yX3_all ∈ tT := tM 880 (by decide +kernel) rfl
theorem ml_X4_46 : Cond.methodLink "RunnerNet$Orders" 46 Lib.Math.min.name ∈ tT := tM 881 (by decide +kernel) rfl
theorem ml_X4_52 : Cond.methodLink "RunnerNet$Orders" 52 yX3_places ∈ tT := tM 882 (by decide +kernel) rfl
theorem ml_X4_59 : Cond.methodLink "RunnerNet$Orders" 59 yX4_most ∈ tT := tM 884 (by decide +kernel) rfl
theorem ml_X4_62 : Cond.methodLink "RunnerNet$Orders" 62 yX4_choose ∈ tT := tM 902 (by decide +kernel) rfl
theorem ml_X4_65 : Cond.methodLink "RunnerNet$Orders" 65 yX4_neighbours ∈ tT := tM 888 (by decide +kernel) rfl
theorem ml_X4_68 : Cond.methodLink "RunnerNet$Orders" 68 yX4_border ∈ tT := tM 897 (by decide +kernel) rfl
theorem ml_X4_72 : Cond.methodLink "RunnerNet$Orders" 72 Lib.Math.max.name ∈ tT := tM 901 (by decide +kernel) rfl
theorem ml_X4_75 : Cond.methodLink "RunnerNet$Orders" 75 yX3_around ∈ tT := tM 892 (by decide +kernel) rfl
theorem ml_X4_78 : Cond.methodLink "RunnerNet$Orders" 78 yJ6_bitCount_0f7a4 ∈ tT := tM 896 (by decide +kernel) rfl
theorem ml_X6_26 : Cond.methodLink "RunnerNet$Settings" 26 yX6_figure ∈ tT := tM 193 (by decide +kernel) rfl
theorem ml_X6_30 : Cond.methodLink "RunnerNet$Settings" 30 yX6_placesOf ∈ tT := tM 717 (by decide +kernel) rfl
theorem ml_X6_37 : Cond.methodLink "RunnerNet$Settings" 37 yX3_all ∈ tT := tM 623 (by decide +kernel) rfl
theorem ml_X6_43 : Cond.methodLink "RunnerNet$Settings" 43 yX6_isRow ∈ tT := tM 684 (by decide +kernel) rfl
theorem ml_X6_47 : Cond.methodLink "RunnerNet$Settings" 47 yX6_rising ∈ tT := tM 685 (by decide +kernel) rfl
theorem ml_X6_50 : Cond.methodLink "RunnerNet$Settings" 50 yX3_known ∈ tT := tM 585 (by decide +kernel) rfl
theorem ml_X6_53 : Cond.methodLink "RunnerNet$Settings" 53 Lib.Math.min.name ∈ tT := tM 689 (by decide +kernel) rfl
theorem ml_X6_58 : Cond.methodLink "RunnerNet$Settings" 58 Lib.Math.max.name ∈ tT := tM 690 (by decide +kernel) rfl
theorem ml_X6_61 : Cond.methodLink "RunnerNet$Settings" 61 yX3_outOf ∈ tT := tM 728 (by decide +kernel) rfl
theorem ml_X7_39 : Cond.methodLink "RunnerNet$Text" 39 yX7_readLine ∈ tT := tM 426 (by decide +kernel) rfl
theorem ml_X7_46 : Cond.methodLink "RunnerNet$Text" 46 yX7_nextToken ∈ tT := tM 430 (by decide +kernel) rfl
theorem ml_X7_49 : Cond.methodLink "RunnerNet$Text" 49 yX7_byteAt ∈ tT := tM 434 (by decide +kernel) rfl
theorem ml_X7_53 : Cond.methodLink "RunnerNet$Text" 53 yX3_reset ∈ tT := tM 517 (by decide +kernel) rfl
theorem ml_X7_59 : Cond.methodLink "RunnerNet$Text" 59 yX3_set ∈ tT := tM 518 (by decide +kernel) rfl
theorem ml_X7_63 : Cond.methodLink "RunnerNet$Text" 63 yX3_settle ∈ tT := tM 526 (by decide +kernel) rfl
theorem ml_X7_66 : Cond.methodLink "RunnerNet$Text" 66 yX7_lineKind ∈ tT := tM 445 (by decide +kernel) rfl
theorem ml_X7_70 : Cond.methodLink "RunnerNet$Text" 70 yX7_number ∈ tT := tM 504 (by decide +kernel) rfl
theorem ml_X7_73 : Cond.methodLink "RunnerNet$Text" 73 Lib.Math.min.name ∈ tT := tM 438 (by decide +kernel) rfl
theorem ml_X7_79 : Cond.methodLink "RunnerNet$Text" 79 yX7_kindAt ∈ tT := tM 441 (by decide +kernel) rfl
theorem ml_X7_84 : Cond.methodLink "RunnerNet$Text" 84 yX7_isWord ∈ tT := tM 450 (by decide +kernel) rfl
theorem ml_X7_92 : Cond.methodLink "RunnerNet$Text" 92 yJ0_length_8abf5 ∈ tT := tM 454 (by decide +kernel) rfl
theorem ml_X7_96 : Cond.methodLink "RunnerNet$Text" 96 yJ0_charAt_5068e ∈ tT := tM 464 (by decide +kernel) rfl
theorem ml_X8_39 : Cond.methodLink "RunnerNet$Unseen" 39 yX8_parentOf ∈ tT := tM 851 (by decide +kernel) rfl
theorem ml_X8_43 : Cond.methodLink "RunnerNet$Unseen" 43 yX3_changes ∈ tT := tM 824 (by decide +kernel) rfl
theorem ml_X8_52 : Cond.methodLink "RunnerNet$Unseen" 52 yJ7_fill_53178 ∈ tT := tM 825 (by decide +kernel) rfl
theorem ml_X8_61 : Cond.methodLink "RunnerNet$Unseen" 61 yX6_size ∈ tT := tM 826 (by decide +kernel) rfl
theorem ml_X8_66 : Cond.methodLink "RunnerNet$Unseen" 66 yX6_isSetting ∈ tT := tM 827 (by decide +kernel) rfl
theorem ml_X8_70 : Cond.methodLink "RunnerNet$Unseen" 70 yX3_all ∈ tT := tM 828 (by decide +kernel) rfl
theorem ml_X8_73 : Cond.methodLink "RunnerNet$Unseen" 73 yX6_placesOf ∈ tT := tM 829 (by decide +kernel) rfl
theorem ml_X8_76 : Cond.methodLink "RunnerNet$Unseen" 76 yX8_meet ∈ tT := tM 830 (by decide +kernel) rfl
theorem ml_X8_80 : Cond.methodLink "RunnerNet$Unseen" 80 yX8_expand ∈ tT := tM 835 (by decide +kernel) rfl
theorem ml_X8_84 : Cond.methodLink "RunnerNet$Unseen" 84 yX8_depthOf ∈ tT := tM 847 (by decide +kernel) rfl
theorem ml_X8_87 : Cond.methodLink "RunnerNet$Unseen" 87 yX6_figure ∈ tT := tM 839 (by decide +kernel) rfl
theorem ml_X8_91 : Cond.methodLink "RunnerNet$Unseen" 91 yX3_outOf ∈ tT := tM 840 (by decide +kernel) rfl
theorem ml_X8_94 : Cond.methodLink "RunnerNet$Unseen" 94 yX6_hunters ∈ tT := tM 841 (by decide +kernel) rfl
theorem ml_X8_101 : Cond.methodLink "RunnerNet$Unseen" 101 yX8_step ∈ tT := tM 842 (by decide +kernel) rfl
theorem ml_X8_105 : Cond.methodLink "RunnerNet$Unseen" 105 yX3_leftBehind ∈ tT := tM 846 (by decide +kernel) rfl
theorem ml_X10_83 : Cond.methodLink "RunnerNetModel" 83 yX10_in ∈ tT := tM 1184 (by decide +kernel) rfl
theorem ml_X10_133 : Cond.methodLink "RunnerNetModel" 133 yX10_nextToken ∈ tT := tM 1204 (by decide +kernel) rfl
theorem ml_X10_136 : Cond.methodLink "RunnerNetModel" 136 yX10_fails ∈ tT := tM 1217 (by decide +kernel) rfl
theorem ml_X10_146 : Cond.methodLink "RunnerNetModel" 146 yX10_isNumber ∈ tT := tM 1221 (by decide +kernel) rfl
theorem ml_X10_155 : Cond.methodLink "RunnerNetModel" 155 yX10_isLine ∈ tT := tM 1200 (by decide +kernel) rfl
theorem ml_X10_159 : Cond.methodLink "RunnerNetModel" 159 yX10_isRead ∈ tT := tM 1196 (by decide +kernel) rfl
theorem ml_X10_162 : Cond.methodLink "RunnerNetModel" 162 yX10_forget ∈ tT := tM 1229 (by decide +kernel) rfl
theorem ml_X10_165 : Cond.methodLink "RunnerNetModel" 165 yX10_isPlace ∈ tT := tM 1237 (by decide +kernel) rfl
theorem ml_X10_168 : Cond.methodLink "RunnerNetModel" 168 yX10_stepsOf ∈ tT := tM 1245 (by decide +kernel) rfl
theorem ml_X10_172 : Cond.methodLink "RunnerNetModel" 172 yX10_stepped ∈ tT := tM 1253 (by decide +kernel) rfl
theorem ml_X10_175 : Cond.methodLink "RunnerNetModel" 175 yX10_spell ∈ tT := tM 1287 (by decide +kernel) rfl
theorem ml_X10_179 : Cond.methodLink "RunnerNetModel" 179 yX10_settled ∈ tT := tM 1268 (by decide +kernel) rfl
theorem ml_X10_182 : Cond.methodLink "RunnerNetModel" 182 yX10_at ∈ tT := tM 1299 (by decide +kernel) rfl
theorem ml_X10_186 : Cond.methodLink "RunnerNetModel" 186 yX10_powerOf ∈ tT := tM 1280 (by decide +kernel) rfl
theorem ml_X10_189 : Cond.methodLink "RunnerNetModel" 189 yX10_isSetting ∈ tT := tM 1283 (by decide +kernel) rfl
theorem ml_X10_193 : Cond.methodLink "RunnerNetModel" 193 yX10_placesOf ∈ tT := tM 1291 (by decide +kernel) rfl
theorem ml_X10_197 : Cond.methodLink "RunnerNetModel" 197 yX10_flight ∈ tT := tM 1295 (by decide +kernel) rfl
theorem ml_X10_201 : Cond.methodLink "RunnerNetModel" 201 yX10_moved ∈ tT := tM 1314 (by decide +kernel) rfl
theorem ml_X10_204 : Cond.methodLink "RunnerNetModel" 204 yX10_behind ∈ tT := tM 1306 (by decide +kernel) rfl
theorem ml_X10_207 : Cond.methodLink "RunnerNetModel" 207 yX10_findFlights ∈ tT := tM 1276 (by decide +kernel) rfl
theorem ml_X10_210 : Cond.methodLink "RunnerNetModel" 210 yX10_findGood ∈ tT := tM 1302 (by decide +kernel) rfl
theorem ml_X10_214 : Cond.methodLink "RunnerNetModel" 214 yX10_leavable ∈ tT := tM 1310 (by decide +kernel) rfl
theorem ml_X10_217 : Cond.methodLink "RunnerNetModel" 217 yX10_isChase ∈ tT := tM 1261 (by decide +kernel) rfl
theorem ml_X10_220 : Cond.methodLink "RunnerNetModel" 220 yX10_told ∈ tT := tM 1264 (by decide +kernel) rfl
theorem ml_X10_223 : Cond.methodLink "RunnerNetModel" 223 yX10_reckon ∈ tT := tM 1272 (by decide +kernel) rfl
theorem ml_X10_226 : Cond.methodLink "RunnerNetModel" 226 yX10_worthOf ∈ tT := tM 1322 (by decide +kernel) rfl
theorem ml_X10_229 : Cond.methodLink "RunnerNetModel" 229 yX10_bestOf ∈ tT := tM 1330 (by decide +kernel) rfl
theorem ml_X10_232 : Cond.methodLink "RunnerNetModel" 232 yX10_huntOf ∈ tT := tM 1346 (by decide +kernel) rfl
theorem ml_X10_235 : Cond.methodLink "RunnerNetModel" 235 yX10_fleeOf ∈ tT := tM 1354 (by decide +kernel) rfl
theorem ml_X10_250 : Cond.methodLink "RunnerNetModel" 250 yX10_isCaught ∈ tT := tM 1366 (by decide +kernel) rfl
theorem ml_X10_253 : Cond.methodLink "RunnerNetModel" 253 yX10_isSet ∈ tT := tM 1378 (by decide +kernel) rfl
theorem ml_X10_256 : Cond.methodLink "RunnerNetModel" 256 yX10_spreadOf ∈ tT := tM 1382 (by decide +kernel) rfl
theorem ml_X10_262 : Cond.methodLink "RunnerNetModel" 262 yX10_canStep ∈ tT := tM 1394 (by decide +kernel) rfl
theorem ml_X10_265 : Cond.methodLink "RunnerNetModel" 265 yX10_findClear ∈ tT := tM 1390 (by decide +kernel) rfl
theorem ml_X10_268 : Cond.methodLink "RunnerNetModel" 268 yX10_lengthFound ∈ tT := tM 1398 (by decide +kernel) rfl
theorem ml_X10_272 : Cond.methodLink "RunnerNetModel" 272 yX10_bits ∈ tT := tM 1422 (by decide +kernel) rfl
theorem ml_X10_275 : Cond.methodLink "RunnerNetModel" 275 yX10_joinBoth ∈ tT := tM 1414 (by decide +kernel) rfl
theorem ml_X10_278 : Cond.methodLink "RunnerNetModel" 278 yX10_costOf ∈ tT := tM 1418 (by decide +kernel) rfl
theorem ml_X10_282 : Cond.methodLink "RunnerNetModel" 282 yX10_greater ∈ tT := tM 1425 (by decide +kernel) rfl
theorem ml_X10_285 : Cond.methodLink "RunnerNetModel" 285 yX10_lesser ∈ tT := tM 1429 (by decide +kernel) rfl
theorem ml_X10_288 : Cond.methodLink "RunnerNetModel" 288 yX10_findRest ∈ tT := tM 1410 (by decide +kernel) rfl
theorem ml_X10_292 : Cond.methodLink "RunnerNetModel" 292 yX10_stepsBoth ∈ tT := tM 1441 (by decide +kernel) rfl
theorem ml_X10_298 : Cond.methodLink "RunnerNetModel" 298 yX10_coveredIn ∈ tT := tM 1437 (by decide +kernel) rfl
theorem ml_X10_301 : Cond.methodLink "RunnerNetModel" 301 yX10_doesTouch ∈ tT := tM 1449 (by decide +kernel) rfl
theorem ml_X10_304 : Cond.methodLink "RunnerNetModel" 304 yX10_goOneMore ∈ tT := tM 1465 (by decide +kernel) rfl
theorem ml_X10_308 : Cond.methodLink "RunnerNetModel" 308 yX10_stepsFrom ∈ tT := tM 1477 (by decide +kernel) rfl
theorem ml_X10_311 : Cond.methodLink "RunnerNetModel" 311 yX10_answerOf ∈ tT := tM 1473 (by decide +kernel) rfl
theorem ml_X10_314 : Cond.methodLink "RunnerNetModel" 314 yX10_findGoes ∈ tT := tM 1461 (by decide +kernel) rfl
theorem ml_X10_317 : Cond.methodLink "RunnerNetModel" 317 yX10_canAnswer ∈ tT := tM 1469 (by decide +kernel) rfl
theorem ml_X10_320 : Cond.methodLink "RunnerNetModel" 320 yX10_guard ∈ tT := tM 1457 (by decide +kernel) rfl
theorem ml_J0_335 : Cond.methodLink "java/lang/String" 335 yJ0_coder_7d493 ∈ tT := tM 458 (by decide +kernel) rfl
theorem ml_J0_492 : Cond.methodLink "java/lang/String" 492 yJ0_isLatin1_aae02 ∈ tT := tM 468 (by decide +kernel) rfl
theorem ml_J0_495 : Cond.methodLink "java/lang/String" 495 yJ1_charAt_3b067 ∈ tT := tM 472 (by decide +kernel) rfl
theorem ml_J0_1059 : Cond.methodLink "java/lang/String" 1059 yJ3_checkIndex_8e157 ∈ tT := tM 480 (by decide +kernel) rfl
theorem ml_J1_9 : Cond.methodLink "java/lang/StringLatin1" 9 yJ0_checkIndex_df160 ∈ tT := tM 475 (by decide +kernel) rfl
def md_X0_solve : Md := (yX0_solve, cX0_solve, 4, none, { frames := 3, cells := 0, slots := 0, locals := 85 })
def md_X0_roundsFrom : Md := (yX0_roundsFrom, cX0_roundsFrom, 4, (some .int), { frames := 1, cells := 0, slots := 0, locals := 23 })
def md_X0_mostFrom : Md := (yX0_mostFrom, cX0_mostFrom, 3, (some .int), { frames := 2, cells := 0, slots := 0, locals := 47 })
def md_X0_bestSetting : Md := (yX0_bestSetting, cX0_bestSetting, 5, (some .int), { frames := 3, cells := 0, slots := 0, locals := 69 })
def md_X0_countEndless : Md := (yX0_countEndless, cX0_countEndless, 3, (some .int), { frames := 3, cells := 0, slots := 0, locals := 69 })
def md_X0_bestMove : Md := (yX0_bestMove, cX0_bestMove, 8, (some .int), { frames := 3, cells := 0, slots := 0, locals := 65 })
def md_X0_bestFlight : Md := (yX0_bestFlight, cX0_bestFlight, 8, (some .int), { frames := 2, cells := 0, slots := 0, locals := 45 })
def md_X0_flights : Md := (yX0_flights, cX0_flights, 5, (some .int), { frames := 1, cells := 0, slots := 0, locals := 21 })
def md_X0_leftAt : Md := (yX0_leftAt, cX0_leftAt, 4, (some .int), { frames := 0, cells := 0, slots := 0, locals := 0 })
def md_X0_mostAmong : Md := (yX0_mostAmong, cX0_mostAmong, 5, (some .int), { frames := 1, cells := 0, slots := 0, locals := 23 })
def md_X0_begin : Md := (yX0_begin, cX0_begin, 3, none, { frames := 1, cells := 0, slots := 0, locals := 23 })
def md_X0_trap : Md := (yX0_trap, cX0_trap, 4, none, { frames := 2, cells := 0, slots := 0, locals := 41 })
def md_X0_widen : Md := (yX0_widen, cX0_widen, 6, none, { frames := 2, cells := 0, slots := 0, locals := 60 })
def md_X0_joinRows : Md := (yX0_joinRows, cX0_joinRows, 7, none, { frames := 1, cells := 0, slots := 0, locals := 21 })
def md_X0_note : Md := (yX0_note, cX0_note, 6, (some .boolean), { frames := 2, cells := 0, slots := 0, locals := 41 })
def md_X1_takenAway : Md := (yX1_takenAway, cX1_takenAway, 5, (some .int), { frames := 4, cells := 0, slots := 0, locals := 88 })
def md_X1_leastCovered : Md := (yX1_leastCovered, cX1_leastCovered, 3, (some .int), { frames := 3, cells := 0, slots := 0, locals := 66 })
def md_X1_isCovered : Md := (yX1_isCovered, cX1_isCovered, 5, (some .boolean), { frames := 2, cells := 0, slots := 0, locals := 42 })
def md_X1_leastSet : Md := (yX1_leastSet, cX1_leastSet, 5, (some .int), { frames := 3, cells := 0, slots := 0, locals := 65 })
def md_X1_touchesAll : Md := (yX1_touchesAll, cX1_touchesAll, 4, (some .boolean), { frames := 2, cells := 0, slots := 0, locals := 42 })
def md_X2_holdsOut : Md := (yX2_holdsOut, cX2_holdsOut, 2, (some .boolean), { frames := 5, cells := 0, slots := 0, locals := 112 })
def md_X2_leastSet : Md := (yX2_leastSet, cX2_leastSet, 3, (some .int), { frames := 5, cells := 0, slots := 0, locals := 112 })
def md_X2_countSets : Md := (yX2_countSets, cX2_countSets, 4, (some .int), { frames := 5, cells := 0, slots := 0, locals := 112 })
def md_X2_leastAnswer : Md := (yX2_leastAnswer, cX2_leastAnswer, 6, (some .int), { frames := 5, cells := 0, slots := 0, locals := 112 })
def md_X2_isSafe : Md := (yX2_isSafe, cX2_isSafe, 2, (some .boolean), { frames := 0, cells := 0, slots := 0, locals := 0 })
def md_X2_answersIn : Md := (yX2_answersIn, cX2_answersIn, 4, (some .long), { frames := 1, cells := 0, slots := 0, locals := 21 })
def md_X2_having : Md := (yX2_having, cX2_having, 2, (some .long), { frames := 0, cells := 0, slots := 0, locals := 0 })
def md_X2_solve : Md := (yX2_solve, cX2_solve, 3, none, { frames := 4, cells := 0, slots := 0, locals := 90 })
def md_X2_dropUnsafe : Md := (yX2_dropUnsafe, cX2_dropUnsafe, 3, (some .boolean), { frames := 3, cells := 0, slots := 0, locals := 68 })
def md_X2_answersAll : Md := (yX2_answersAll, cX2_answersAll, 5, (some .boolean), { frames := 2, cells := 0, slots := 0, locals := 44 })
def md_X2_put : Md := (yX2_put, cX2_put, 4, none, { frames := 0, cells := 0, slots := 0, locals := 0 })
def md_X2_moveAlone : Md := (yX2_moveAlone, cX2_moveAlone, 5, none, { frames := 2, cells := 0, slots := 0, locals := 42 })
def md_X2_moveTogether : Md := (yX2_moveTogether, cX2_moveTogether, 5, none, { frames := 2, cells := 0, slots := 0, locals := 48 })
def md_X2_addPlace : Md := (yX2_addPlace, cX2_addPlace, 8, none, { frames := 1, cells := 0, slots := 0, locals := 21 })
def md_X3_places : Md := (yX3_places, cX3_places, 1, (some .int), { frames := 0, cells := 0, slots := 0, locals := 0 })
def md_X3_changes : Md := (yX3_changes, cX3_changes, 1, (some .int), { frames := 0, cells := 0, slots := 0, locals := 0 })
def md_X3_all : Md := (yX3_all, cX3_all, 1, (some .int), { frames := 0, cells := 0, slots := 0, locals := 0 })
def md_X3_known : Md := (yX3_known, cX3_known, 2, (some .boolean), { frames := 0, cells := 0, slots := 0, locals := 0 })
def md_X3_holdsAll : Md := (yX3_holdsAll, cX3_holdsAll, 2, (some .boolean), { frames := 1, cells := 0, slots := 0, locals := 20 })
def md_X3_reset : Md := (yX3_reset, cX3_reset, 3, none, { frames := 0, cells := 0, slots := 0, locals := 0 })
def md_X3_set : Md := (yX3_set, cX3_set, 4, none, { frames := 1, cells := 0, slots := 0, locals := 21 })
def md_X3_settle : Md := (yX3_settle, cX3_settle, 4, none, { frames := 0, cells := 0, slots := 0, locals := 0 })
def md_X3_outOf : Md := (yX3_outOf, cX3_outOf, 2, (some .int), { frames := 1, cells := 0, slots := 0, locals := 21 })
def md_X3_bothWays : Md := (yX3_bothWays, cX3_bothWays, 2, (some .int), { frames := 1, cells := 0, slots := 0, locals := 21 })
def md_X3_aheadOf : Md := (yX3_aheadOf, cX3_aheadOf, 2, (some .int), { frames := 0, cells := 0, slots := 0, locals := 0 })
def md_X3_behindOf : Md := (yX3_behindOf, cX3_behindOf, 2, (some .int), { frames := 0, cells := 0, slots := 0, locals := 0 })
def md_X3_around : Md := (yX3_around, cX3_around, 2, (some .int), { frames := 0, cells := 0, slots := 0, locals := 0 })
def md_X3_leftBehind : Md := (yX3_leftBehind, cX3_leftBehind, 3, (some .int), { frames := 1, cells := 0, slots := 0, locals := 21 })
def md_X3_distance : Md := (yX3_distance, cX3_distance, 5, (some .int), { frames := 1, cells := 0, slots := 0, locals := 21 })
def md_X3_pairs : Md := (yX3_pairs, cX3_pairs, 3, (some .int), { frames := 1, cells := 0, slots := 0, locals := 20 })
def md_X4_hunters : Md := (yX4_hunters, cX4_hunters, 1, (some .int), { frames := 5, cells := 0, slots := 0, locals := 116 })
def md_X4_placeAt : Md := (yX4_placeAt, cX4_placeAt, 2, (some .int), { frames := 5, cells := 0, slots := 0, locals := 116 })
def md_X4_solve : Md := (yX4_solve, cX4_solve, 5, none, { frames := 4, cells := 0, slots := 0, locals := 92 })
def md_X4_choose : Md := (yX4_choose, cX4_choose, 5, none, { frames := 3, cells := 0, slots := 0, locals := 68 })
def md_X4_most : Md := (yX4_most, cX4_most, 4, (some .int), { frames := 2, cells := 0, slots := 0, locals := 45 })
def md_X4_border : Md := (yX4_border, cX4_border, 2, (some .int), { frames := 1, cells := 0, slots := 0, locals := 21 })
def md_X4_neighbours : Md := (yX4_neighbours, cX4_neighbours, 5, (some .int), { frames := 1, cells := 0, slots := 0, locals := 21 })
def md_X5_isOn : Md := (yX5_isOn, cX5_isOn, 1, (some .boolean), { frames := 0, cells := 0, slots := 0, locals := 0 })
def md_X5_hunters : Md := (yX5_hunters, cX5_hunters, 1, (some .int), { frames := 0, cells := 0, slots := 0, locals := 0 })
def md_X5_speed : Md := (yX5_speed, cX5_speed, 1, (some .int), { frames := 0, cells := 0, slots := 0, locals := 0 })
def md_X5_setting : Md := (yX5_setting, cX5_setting, 1, (some .int), { frames := 0, cells := 0, slots := 0, locals := 0 })
def md_X5_place : Md := (yX5_place, cX5_place, 1, (some .int), { frames := 0, cells := 0, slots := 0, locals := 0 })
def md_X5_gone : Md := (yX5_gone, cX5_gone, 1, (some .int), { frames := 0, cells := 0, slots := 0, locals := 0 })
def md_X5_begin : Md := (yX5_begin, cX5_begin, 5, none, { frames := 0, cells := 0, slots := 0, locals := 0 })
def md_X5_go : Md := (yX5_go, cX5_go, 3, none, { frames := 0, cells := 0, slots := 0, locals := 0 })
def md_X5_end : Md := (yX5_end, cX5_end, 1, none, { frames := 0, cells := 0, slots := 0, locals := 0 })
def md_X6_hunters : Md := (yX6_hunters, cX6_hunters, 1, (some .int), { frames := 0, cells := 0, slots := 0, locals := 0 })
def md_X6_size : Md := (yX6_size, cX6_size, 1, (some .int), { frames := 0, cells := 0, slots := 0, locals := 0 })
def md_X6_figure : Md := (yX6_figure, cX6_figure, 3, (some .int), { frames := 0, cells := 0, slots := 0, locals := 0 })
def md_X6_placesOf : Md := (yX6_placesOf, cX6_placesOf, 2, (some .int), { frames := 0, cells := 0, slots := 0, locals := 0 })
def md_X6_holds : Md := (yX6_holds, cX6_holds, 3, (some .boolean), { frames := 1, cells := 0, slots := 0, locals := 21 })
def md_X6_isRow : Md := (yX6_isRow, cX6_isRow, 2, (some .boolean), { frames := 1, cells := 0, slots := 0, locals := 20 })
def md_X6_isSetting : Md := (yX6_isSetting, cX6_isSetting, 2, (some .boolean), { frames := 2, cells := 0, slots := 0, locals := 48 })
def md_X6_told : Md := (yX6_told, cX6_told, 5, (some .int), { frames := 1, cells := 0, slots := 0, locals := 21 })
def md_X6_rising : Md := (yX6_rising, cX6_rising, 7, (some .int), { frames := 1, cells := 0, slots := 0, locals := 22 })
def md_X6_canStep : Md := (yX6_canStep, cX6_canStep, 4, (some .boolean), { frames := 2, cells := 0, slots := 0, locals := 42 })
def md_X7_length : Md := (yX7_length, cX7_length, 1, (some .int), { frames := 0, cells := 0, slots := 0, locals := 0 })
def md_X7_drop : Md := (yX7_drop, cX7_drop, 1, none, { frames := 0, cells := 0, slots := 0, locals := 0 })
def md_X7_append : Md := (yX7_append, cX7_append, 5, (some .boolean), { frames := 0, cells := 0, slots := 0, locals := 0 })
def md_X7_read : Md := (yX7_read, cX7_read, 3, (some .int), { frames := 8, cells := 0, slots := 0, locals := 172 })
def md_X7_layOn : Md := (yX7_layOn, cX7_layOn, 3, none, { frames := 2, cells := 0, slots := 0, locals := 44 })
def md_X7_readLine : Md := (yX7_readLine, cX7_readLine, 5, (some .boolean), { frames := 7, cells := 0, slots := 0, locals := 148 })
def md_X7_byteAt : Md := (yX7_byteAt, cX7_byteAt, 2, (some .int), { frames := 0, cells := 0, slots := 0, locals := 0 })
def md_X7_kindAt : Md := (yX7_kindAt, cX7_kindAt, 3, (some .int), { frames := 1, cells := 0, slots := 0, locals := 21 })
def md_X7_nextToken : Md := (yX7_nextToken, cX7_nextToken, 2, none, { frames := 2, cells := 0, slots := 0, locals := 43 })
def md_X7_lineKind : Md := (yX7_lineKind, cX7_lineKind, 1, (some .int), { frames := 6, cells := 0, slots := 0, locals := 128 })
def md_X7_isWord : Md := (yX7_isWord, cX7_isWord, 3, (some .boolean), { frames := 5, cells := 0, slots := 0, locals := 106 })
def md_X7_number : Md := (yX7_number, cX7_number, 2, (some .int), { frames := 2, cells := 0, slots := 0, locals := 43 })
def md_X8_length : Md := (yX8_length, cX8_length, 1, (some .int), { frames := 0, cells := 0, slots := 0, locals := 0 })
def md_X8_settingAt : Md := (yX8_settingAt, cX8_settingAt, 4, (some .int), { frames := 1, cells := 0, slots := 0, locals := 21 })
def md_X8_search : Md := (yX8_search, cX8_search, 4, none, { frames := 4, cells := 0, slots := 0, locals := 95 })
def md_X8_parentOf : Md := (yX8_parentOf, cX8_parentOf, 2, (some .int), { frames := 0, cells := 0, slots := 0, locals := 0 })
def md_X8_depthOf : Md := (yX8_depthOf, cX8_depthOf, 4, (some .int), { frames := 1, cells := 0, slots := 0, locals := 21 })
def md_X8_expand : Md := (yX8_expand, cX8_expand, 8, none, { frames := 3, cells := 0, slots := 0, locals := 68 })
def md_X8_step : Md := (yX8_step, cX8_step, 3, none, { frames := 2, cells := 0, slots := 0, locals := 46 })
def md_X8_meet : Md := (yX8_meet, cX8_meet, 6, none, { frames := 1, cells := 0, slots := 0, locals := 21 })
def md_X9_write : Md := (yX9_write, cX9_write, 4, (some .int), { frames := 1, cells := 0, slots := 0, locals := 24 })
def md_X9_erase : Md := (yX9_erase, cX9_erase, 2, (some .int), { frames := 1, cells := 0, slots := 0, locals := 20 })
def md_X9_fault : Md := (yX9_fault, cX9_fault, 1, (some .int), { frames := 9, cells := 0, slots := 0, locals := 194 })
def md_X9_laid : Md := (yX9_laid, cX9_laid, 1, (some .int), { frames := 9, cells := 0, slots := 0, locals := 194 })
def md_X9_road : Md := (yX9_road, cX9_road, 5, (some .int), { frames := 2, cells := 0, slots := 0, locals := 44 })
def md_X9_steps : Md := (yX9_steps, cX9_steps, 2, (some .int), { frames := 2, cells := 0, slots := 0, locals := 42 })
def md_X9_far : Md := (yX9_far, cX9_far, 3, (some .int), { frames := 2, cells := 0, slots := 0, locals := 45 })
def md_X9_rounds : Md := (yX9_rounds, cX9_rounds, 6, (some .int), { frames := 5, cells := 0, slots := 0, locals := 132 })
def md_X9_worth : Md := (yX9_worth, cX9_worth, 5, (some .int), { frames := 5, cells := 0, slots := 0, locals := 132 })
def md_X9_best : Md := (yX9_best, cX9_best, 6, (some .int), { frames := 5, cells := 0, slots := 0, locals := 132 })
def md_X9_fewest : Md := (yX9_fewest, cX9_fewest, 3, (some .int), { frames := 5, cells := 0, slots := 0, locals := 132 })
def md_X9_escapes : Md := (yX9_escapes, cX9_escapes, 3, (some .int), { frames := 5, cells := 0, slots := 0, locals := 132 })
def md_X9_hunt : Md := (yX9_hunt, cX9_hunt, 7, (some .int), { frames := 5, cells := 0, slots := 0, locals := 132 })
def md_X9_flee : Md := (yX9_flee, cX9_flee, 7, (some .int), { frames := 5, cells := 0, slots := 0, locals := 132 })
def md_X9_play : Md := (yX9_play, cX9_play, 6, (some .int), { frames := 3, cells := 0, slots := 0, locals := 69 })
def md_X9_turn : Md := (yX9_turn, cX9_turn, 6, (some .int), { frames := 6, cells := 0, slots := 0, locals := 155 })
def md_X9_now : Md := (yX9_now, cX9_now, 2, (some .int), { frames := 3, cells := 0, slots := 0, locals := 63 })
def md_X9_spread : Md := (yX9_spread, cX9_spread, 5, (some .int), { frames := 2, cells := 0, slots := 0, locals := 45 })
def md_X9_clear : Md := (yX9_clear, cX9_clear, 5, (some .int), { frames := 5, cells := 0, slots := 0, locals := 118 })
def md_X9_free : Md := (yX9_free, cX9_free, 3, (some .int), { frames := 5, cells := 0, slots := 0, locals := 118 })
def md_X9_flying : Md := (yX9_flying, cX9_flying, 4, (some .int), { frames := 6, cells := 0, slots := 0, locals := 137 })
def md_X9_away : Md := (yX9_away, cX9_away, 2, (some .int), { frames := 5, cells := 0, slots := 0, locals := 112 })
def md_X9_least : Md := (yX9_least, cX9_least, 2, (some .int), { frames := 4, cells := 0, slots := 0, locals := 89 })
def md_X9_safe : Md := (yX9_safe, cX9_safe, 3, (some .int), { frames := 6, cells := 0, slots := 0, locals := 133 })
def md_X9_guards : Md := (yX9_guards, cX9_guards, 5, (some .int), { frames := 6, cells := 0, slots := 0, locals := 135 })
def md_X9_answer : Md := (yX9_answer, cX9_answer, 4, (some .int), { frames := 6, cells := 0, slots := 0, locals := 137 })
def md_X9_count : Md := (yX9_count, cX9_count, 2, (some .int), { frames := 2, cells := 0, slots := 0, locals := 42 })
def md_X9_has : Md := (yX9_has, cX9_has, 2, (some .boolean), { frames := 0, cells := 0, slots := 0, locals := 0 })
def md_X9_isChase : Md := (yX9_isChase, cX9_isChase, 2, (some .boolean), { frames := 0, cells := 0, slots := 0, locals := 0 })
def md_X9_isWatch : Md := (yX9_isWatch, cX9_isWatch, 3, (some .boolean), { frames := 2, cells := 0, slots := 0, locals := 41 })
def md_X9_settings : Md := (yX9_settings, cX9_settings, 2, (some (.object "RunnerNet$Settings")), { frames := 1, cells := 0, slots := 0, locals := 21 })
def md_X9_chase : Md := (yX9_chase, cX9_chase, 5, (some (.object "RunnerNet$Chase")), { frames := 4, cells := 0, slots := 0, locals := 108 })
def md_X9_refuseStand : Md := (yX9_refuseStand, cX9_refuseStand, 5, (some .int), { frames := 2, cells := 0, slots := 0, locals := 45 })
def md_X9_isCaught : Md := (yX9_isCaught, cX9_isCaught, 1, (some .boolean), { frames := 2, cells := 0, slots := 0, locals := 43 })
def md_X9_settingBehind : Md := (yX9_settingBehind, cX9_settingBehind, 4, (some .int), { frames := 5, cells := 0, slots := 0, locals := 132 })
def md_X9_placeBehind : Md := (yX9_placeBehind, cX9_placeBehind, 4, (some .int), { frames := 5, cells := 0, slots := 0, locals := 132 })
def md_X10_in : Md := (yX10_in, cX10_in, 3, (some .boolean), { frames := 0, cells := 0, slots := 0, locals := 0 })
def md_X10_isPlace : Md := (yX10_isPlace, cX10_isPlace, 2, (some .boolean), { frames := 1, cells := 0, slots := 0, locals := 22 })
def md_X10_bits : Md := (yX10_bits, cX10_bits, 3, (some .int), { frames := 0, cells := 0, slots := 0, locals := 0 })
def md_X10_stepsOf : Md := (yX10_stepsOf, cX10_stepsOf, 2, (some .int), { frames := 0, cells := 0, slots := 0, locals := 0 })
def md_X10_forget : Md := (yX10_forget, cX10_forget, 2, none, { frames := 0, cells := 0, slots := 0, locals := 0 })
def md_X10_write : Md := (yX10_write, cX10_write, 5, (some .int), { frames := 1, cells := 0, slots := 0, locals := 22 })
def md_X10_erase : Md := (yX10_erase, cX10_erase, 2, (some .int), { frames := 0, cells := 0, slots := 0, locals := 0 })
def md_X10_nextToken : Md := (yX10_nextToken, cX10_nextToken, 1, none, { frames := 1, cells := 0, slots := 0, locals := 22 })
def md_X10_fails : Md := (yX10_fails, cX10_fails, 1, (some .boolean), { frames := 0, cells := 0, slots := 0, locals := 0 })
def md_X10_isNumber : Md := (yX10_isNumber, cX10_isNumber, 4, (some .boolean), { frames := 2, cells := 0, slots := 0, locals := 42 })
def md_X10_isLine : Md := (yX10_isLine, cX10_isLine, 2, (some .boolean), { frames := 3, cells := 0, slots := 0, locals := 65 })
def md_X10_isRead : Md := (yX10_isRead, cX10_isRead, 2, (some .boolean), { frames := 4, cells := 0, slots := 0, locals := 86 })
def md_X10_fault : Md := (yX10_fault, cX10_fault, 1, (some .int), { frames := 5, cells := 0, slots := 0, locals := 107 })
def md_X10_laid : Md := (yX10_laid, cX10_laid, 5, (some .int), { frames := 5, cells := 0, slots := 0, locals := 107 })
def md_X10_road : Md := (yX10_road, cX10_road, 5, (some .int), { frames := 2, cells := 0, slots := 0, locals := 43 })
def md_X10_steps : Md := (yX10_steps, cX10_steps, 2, (some .int), { frames := 2, cells := 0, slots := 0, locals := 43 })
def md_X10_stepped : Md := (yX10_stepped, cX10_stepped, 4, (some .int), { frames := 1, cells := 0, slots := 0, locals := 21 })
def md_X10_far : Md := (yX10_far, cX10_far, 5, (some .int), { frames := 2, cells := 0, slots := 0, locals := 44 })
def md_X10_spell : Md := (yX10_spell, cX10_spell, 5, none, { frames := 0, cells := 0, slots := 0, locals := 0 })
def md_X10_settled : Md := (yX10_settled, cX10_settled, 5, (some .int), { frames := 0, cells := 0, slots := 0, locals := 0 })
def md_X10_powerOf : Md := (yX10_powerOf, cX10_powerOf, 1, (some .int), { frames := 0, cells := 0, slots := 0, locals := 0 })
def md_X10_isSetting : Md := (yX10_isSetting, cX10_isSetting, 5, (some .boolean), { frames := 1, cells := 0, slots := 0, locals := 24 })
def md_X10_placesOf : Md := (yX10_placesOf, cX10_placesOf, 5, (some .int), { frames := 1, cells := 0, slots := 0, locals := 24 })
def md_X10_moved : Md := (yX10_moved, cX10_moved, 7, (some .int), { frames := 1, cells := 0, slots := 0, locals := 24 })
def md_X10_at : Md := (yX10_at, cX10_at, 4, (some .int), { frames := 0, cells := 0, slots := 0, locals := 0 })
def md_X10_flight : Md := (yX10_flight, cX10_flight, 6, (some .int), { frames := 2, cells := 0, slots := 0, locals := 44 })
def md_X10_behind : Md := (yX10_behind, cX10_behind, 9, (some .int), { frames := 1, cells := 0, slots := 0, locals := 23 })
def md_X10_findFlights : Md := (yX10_findFlights, cX10_findFlights, 6, none, { frames := 3, cells := 0, slots := 0, locals := 69 })
def md_X10_leavable : Md := (yX10_leavable, cX10_leavable, 6, (some .int), { frames := 2, cells := 0, slots := 0, locals := 50 })
def md_X10_findGood : Md := (yX10_findGood, cX10_findGood, 7, none, { frames := 2, cells := 0, slots := 0, locals := 51 })
def md_X10_reckon : Md := (yX10_reckon, cX10_reckon, 8, none, { frames := 4, cells := 0, slots := 0, locals := 94 })
def md_X10_isChase : Md := (yX10_isChase, cX10_isChase, 2, (some .boolean), { frames := 1, cells := 0, slots := 0, locals := 22 })
def md_X10_told : Md := (yX10_told, cX10_told, 5, (some .int), { frames := 1, cells := 0, slots := 0, locals := 24 })
def md_X10_rounds : Md := (yX10_rounds, cX10_rounds, 6, (some .int), { frames := 5, cells := 0, slots := 0, locals := 121 })
def md_X10_worthOf : Md := (yX10_worthOf, cX10_worthOf, 7, (some .int), { frames := 1, cells := 0, slots := 0, locals := 23 })
def md_X10_worth : Md := (yX10_worth, cX10_worth, 5, (some .int), { frames := 5, cells := 0, slots := 0, locals := 121 })
def md_X10_bestOf : Md := (yX10_bestOf, cX10_bestOf, 5, (some .int), { frames := 5, cells := 0, slots := 0, locals := 121 })
def md_X10_best : Md := (yX10_best, cX10_best, 5, (some .int), { frames := 6, cells := 0, slots := 0, locals := 145 })
def md_X10_fewest : Md := (yX10_fewest, cX10_fewest, 3, (some .int), { frames := 6, cells := 0, slots := 0, locals := 145 })
def md_X10_escapes : Md := (yX10_escapes, cX10_escapes, 6, (some .int), { frames := 5, cells := 0, slots := 0, locals := 121 })
def md_X10_huntOf : Md := (yX10_huntOf, cX10_huntOf, 10, (some .int), { frames := 5, cells := 0, slots := 0, locals := 121 })
def md_X10_fleeOf : Md := (yX10_fleeOf, cX10_fleeOf, 10, (some .int), { frames := 5, cells := 0, slots := 0, locals := 121 })
def md_X10_hunt : Md := (yX10_hunt, cX10_hunt, 6, (some .int), { frames := 6, cells := 0, slots := 0, locals := 150 })
def md_X10_flee : Md := (yX10_flee, cX10_flee, 6, (some .int), { frames := 6, cells := 0, slots := 0, locals := 150 })
def md_X10_play : Md := (yX10_play, cX10_play, 6, (some .int), { frames := 2, cells := 0, slots := 0, locals := 48 })
def md_X10_isCaught : Md := (yX10_isCaught, cX10_isCaught, 1, (some .boolean), { frames := 2, cells := 0, slots := 0, locals := 48 })
def md_X10_turn : Md := (yX10_turn, cX10_turn, 6, (some .int), { frames := 6, cells := 0, slots := 0, locals := 150 })
def md_X10_now : Md := (yX10_now, cX10_now, 2, (some .int), { frames := 3, cells := 0, slots := 0, locals := 68 })
def md_X10_spreadOf : Md := (yX10_spreadOf, cX10_spreadOf, 3, (some .int), { frames := 2, cells := 0, slots := 0, locals := 44 })
def md_X10_isSet : Md := (yX10_isSet, cX10_isSet, 2, (some .boolean), { frames := 1, cells := 0, slots := 0, locals := 22 })
def md_X10_spread : Md := (yX10_spread, cX10_spread, 5, (some .int), { frames := 3, cells := 0, slots := 0, locals := 66 })
def md_X10_findClear : Md := (yX10_findClear, cX10_findClear, 10, none, { frames := 3, cells := 0, slots := 0, locals := 66 })
def md_X10_canStep : Md := (yX10_canStep, cX10_canStep, 8, (some .boolean), { frames := 1, cells := 0, slots := 0, locals := 21 })
def md_X10_lengthFound : Md := (yX10_lengthFound, cX10_lengthFound, 3, (some .int), { frames := 0, cells := 0, slots := 0, locals := 0 })
def md_X10_clear : Md := (yX10_clear, cX10_clear, 8, (some .int), { frames := 4, cells := 0, slots := 0, locals := 95 })
def md_X10_free : Md := (yX10_free, cX10_free, 5, (some .int), { frames := 4, cells := 0, slots := 0, locals := 95 })
def md_X10_joinBoth : Md := (yX10_joinBoth, cX10_joinBoth, 4, none, { frames := 0, cells := 0, slots := 0, locals := 0 })
def md_X10_costOf : Md := (yX10_costOf, cX10_costOf, 7, (some .int), { frames := 1, cells := 0, slots := 0, locals := 22 })
def md_X10_lesser : Md := (yX10_lesser, cX10_lesser, 3, (some .int), { frames := 0, cells := 0, slots := 0, locals := 0 })
def md_X10_greater : Md := (yX10_greater, cX10_greater, 3, (some .int), { frames := 0, cells := 0, slots := 0, locals := 0 })
def md_X10_findRest : Md := (yX10_findRest, cX10_findRest, 5, none, { frames := 2, cells := 0, slots := 0, locals := 48 })
def md_X10_flying : Md := (yX10_flying, cX10_flying, 8, (some .int), { frames := 3, cells := 0, slots := 0, locals := 72 })
def md_X10_stepsBoth : Md := (yX10_stepsBoth, cX10_stepsBoth, 4, (some .int), { frames := 0, cells := 0, slots := 0, locals := 0 })
def md_X10_coveredIn : Md := (yX10_coveredIn, cX10_coveredIn, 6, (some .int), { frames := 1, cells := 0, slots := 0, locals := 23 })
def md_X10_away : Md := (yX10_away, cX10_away, 4, (some .int), { frames := 2, cells := 0, slots := 0, locals := 48 })
def md_X10_doesTouch : Md := (yX10_doesTouch, cX10_doesTouch, 4, (some .boolean), { frames := 0, cells := 0, slots := 0, locals := 0 })
def md_X10_least : Md := (yX10_least, cX10_least, 6, (some .int), { frames := 2, cells := 0, slots := 0, locals := 44 })
def md_X10_findGoes : Md := (yX10_findGoes, cX10_findGoes, 3, none, { frames := 1, cells := 0, slots := 0, locals := 23 })
def md_X10_goOneMore : Md := (yX10_goOneMore, cX10_goOneMore, 4, none, { frames := 0, cells := 0, slots := 0, locals := 0 })
def md_X10_answerOf : Md := (yX10_answerOf, cX10_answerOf, 8, (some .int), { frames := 1, cells := 0, slots := 0, locals := 23 })
def md_X10_stepsFrom : Md := (yX10_stepsFrom, cX10_stepsFrom, 4, (some .int), { frames := 0, cells := 0, slots := 0, locals := 0 })
def md_X10_canAnswer : Md := (yX10_canAnswer, cX10_canAnswer, 5, (some .boolean), { frames := 2, cells := 0, slots := 0, locals := 50 })
def md_X10_guard : Md := (yX10_guard, cX10_guard, 4, none, { frames := 3, cells := 0, slots := 0, locals := 74 })
def md_X10_safe : Md := (yX10_safe, cX10_safe, 3, (some .int), { frames := 4, cells := 0, slots := 0, locals := 97 })
def md_X10_guards : Md := (yX10_guards, cX10_guards, 6, (some .int), { frames := 4, cells := 0, slots := 0, locals := 97 })
def md_X10_answer : Md := (yX10_answer, cX10_answer, 4, (some .int), { frames := 4, cells := 0, slots := 0, locals := 97 })
def md_X10_count : Md := (yX10_count, cX10_count, 4, (some .int), { frames := 1, cells := 0, slots := 0, locals := 22 })
def md_J6_bitCount_0f7a4 : Md := (yJ6_bitCount_0f7a4, cJ6_bitCount_0f7a4, 1, (some .int), { frames := 0, cells := 0, slots := 0, locals := 0 })
def md_J13_bitCount_95d88 : Md := (yJ13_bitCount_95d88, cJ13_bitCount_95d88, 2, (some .int), { frames := 0, cells := 0, slots := 0, locals := 0 })
def md_J0_length_8abf5 : Md := (yJ0_length_8abf5, cJ0_length_8abf5, 1, (some .int), { frames := 1, cells := 0, slots := 0, locals := 20 })
def md_J0_charAt_5068e : Md := (yJ0_charAt_5068e, cJ0_charAt_5068e, 2, (some .char), { frames := 4, cells := 0, slots := 0, locals := 85 })
def md_J0_coder_7d493 : Md := (yJ0_coder_7d493, cJ0_coder_7d493, 1, (some .byte), { frames := 0, cells := 0, slots := 0, locals := 0 })
def md_J0_isLatin1_aae02 : Md := (yJ0_isLatin1_aae02, cJ0_isLatin1_aae02, 1, (some .boolean), { frames := 0, cells := 0, slots := 0, locals := 0 })
def md_J0_checkIndex_df160 : Md := (yJ0_checkIndex_df160, cJ0_checkIndex_df160, 2, none, { frames := 1, cells := 0, slots := 0, locals := 22 })
def md_J1_charAt_3b067 : Md := (yJ1_charAt_3b067, cJ1_charAt_3b067, 2, (some .char), { frames := 2, cells := 0, slots := 0, locals := 43 })
def md_J7_fill_d0a16 : Md := (yJ7_fill_d0a16, cJ7_fill_d0a16, 5, none, { frames := 0, cells := 0, slots := 0, locals := 0 })
def md_J7_fill_53178 : Md := (yJ7_fill_53178, cJ7_fill_53178, 4, none, { frames := 0, cells := 0, slots := 0, locals := 0 })
def md_J3_checkIndex_8e157 : Md := (yJ3_checkIndex_8e157, cJ3_checkIndex_8e157, 3, (some .int), { frames := 0, cells := 0, slots := 0, locals := 0 })
theorem mf_J0_charAt_5068e : MF md_J0_charAt_5068e 1 := ⟨by decide, by decide, by decide +kernel, tM 467 (by decide +kernel) rfl, tM 100 (by decide +kernel) rfl, rfl, rfl⟩
theorem vf_J0_charAt_5068e : VF md_J0_charAt_5068e := ⟨tM 465 (by decide +kernel) rfl, tM 466 (by decide +kernel) rfl⟩
theorem mf_J0_checkIndex_df160 : MF md_J0_checkIndex_df160 2 := ⟨by decide, by decide, by decide +kernel, tM 477 (by decide +kernel) rfl, tM 100 (by decide +kernel) rfl, rfl, rfl⟩
theorem vf_J0_checkIndex_df160 : Cond.static md_J0_checkIndex_df160.1 ∈ tT := tM 476 (by decide +kernel) rfl
theorem mf_J0_coder_7d493 : MF md_J0_coder_7d493 0 := ⟨by decide, by decide, by decide +kernel, tM 461 (by decide +kernel) rfl, tM 100 (by decide +kernel) rfl, rfl, rfl⟩
theorem vf_J0_coder_7d493 : VF md_J0_coder_7d493 := ⟨tM 459 (by decide +kernel) rfl, tM 460 (by decide +kernel) rfl⟩
theorem mf_J0_isLatin1_aae02 : MF md_J0_isLatin1_aae02 0 := ⟨by decide, by decide, by decide +kernel, tM 471 (by decide +kernel) rfl, tM 100 (by decide +kernel) rfl, rfl, rfl⟩
theorem vf_J0_isLatin1_aae02 : VF md_J0_isLatin1_aae02 := ⟨tM 469 (by decide +kernel) rfl, tM 470 (by decide +kernel) rfl⟩
theorem mf_J0_length_8abf5 : MF md_J0_length_8abf5 0 := ⟨by decide, by decide, by decide +kernel, tM 457 (by decide +kernel) rfl, tM 100 (by decide +kernel) rfl, rfl, rfl⟩
theorem vf_J0_length_8abf5 : VF md_J0_length_8abf5 := ⟨tM 455 (by decide +kernel) rfl, tM 456 (by decide +kernel) rfl⟩
theorem mf_J13_bitCount_95d88 : MF md_J13_bitCount_95d88 1 := ⟨by decide, by decide, by decide +kernel, tM 1034 (by decide +kernel) rfl, tM 107 (by decide +kernel) rfl, rfl, rfl⟩
theorem vf_J13_bitCount_95d88 : Cond.static md_J13_bitCount_95d88.1 ∈ tT := tM 1033 (by decide +kernel) rfl
theorem mf_J1_charAt_3b067 : MF md_J1_charAt_3b067 2 := ⟨by decide, by decide, by decide +kernel, tM 474 (by decide +kernel) rfl, tM 101 (by decide +kernel) rfl, rfl, rfl⟩
theorem vf_J1_charAt_3b067 : Cond.static md_J1_charAt_3b067.1 ∈ tT := tM 473 (by decide +kernel) rfl
theorem mf_J3_checkIndex_8e157 : MF md_J3_checkIndex_8e157 3 := ⟨by decide, by decide, by decide +kernel, tM 482 (by decide +kernel) rfl, tM 102 (by decide +kernel) rfl, rfl, rfl⟩
theorem vf_J3_checkIndex_8e157 : Cond.static md_J3_checkIndex_8e157.1 ∈ tT := tM 481 (by decide +kernel) rfl
theorem mf_J6_bitCount_0f7a4 : MF md_J6_bitCount_0f7a4 1 := ⟨by decide, by decide, by decide +kernel, tM 705 (by decide +kernel) rfl, tM 106 (by decide +kernel) rfl, rfl, rfl⟩
theorem vf_J6_bitCount_0f7a4 : Cond.static md_J6_bitCount_0f7a4.1 ∈ tT := tM 704 (by decide +kernel) rfl
theorem mf_J7_fill_53178 : MF md_J7_fill_53178 2 := ⟨by decide, by decide, by decide +kernel, tM 605 (by decide +kernel) rfl, tM 104 (by decide +kernel) rfl, rfl, rfl⟩
theorem vf_J7_fill_53178 : Cond.static md_J7_fill_53178.1 ∈ tT := tM 604 (by decide +kernel) rfl
theorem mf_J7_fill_d0a16 : MF md_J7_fill_d0a16 2 := ⟨by decide, by decide, by decide +kernel, tM 968 (by decide +kernel) rfl, tM 104 (by decide +kernel) rfl, rfl, rfl⟩
theorem vf_J7_fill_d0a16 : Cond.static md_J7_fill_d0a16.1 ∈ tT := tM 967 (by decide +kernel) rfl
theorem mf_X0_begin : MF md_X0_begin 0 := ⟨by decide, by decide, by decide +kernel, tM 601 (by decide +kernel) rfl, tM 92 (by decide +kernel) rfl, rfl, rfl⟩
theorem vf_X0_begin : VF md_X0_begin := ⟨tM 600 (by decide +kernel) rfl, tM 10 (by decide +kernel) rfl⟩
theorem mf_X0_bestFlight : MF md_X0_bestFlight 2 := ⟨by decide, by decide, by decide +kernel, tM 742 (by decide +kernel) rfl, tM 92 (by decide +kernel) rfl, rfl, rfl⟩
theorem vf_X0_bestFlight : VF md_X0_bestFlight := ⟨tM 740 (by decide +kernel) rfl, tM 741 (by decide +kernel) rfl⟩
theorem mf_X0_bestMove : MF md_X0_bestMove 2 := ⟨by decide, by decide, by decide +kernel, tM 722 (by decide +kernel) rfl, tM 92 (by decide +kernel) rfl, rfl, rfl⟩
theorem vf_X0_bestMove : VF md_X0_bestMove := ⟨tM 720 (by decide +kernel) rfl, tM 721 (by decide +kernel) rfl⟩
theorem mf_X0_bestSetting : MF md_X0_bestSetting 0 := ⟨by decide, by decide, by decide +kernel, tM 679 (by decide +kernel) rfl, tM 92 (by decide +kernel) rfl, rfl, rfl⟩
theorem vf_X0_bestSetting : VF md_X0_bestSetting := ⟨tM 677 (by decide +kernel) rfl, tM 678 (by decide +kernel) rfl⟩
theorem mf_X0_countEndless : MF md_X0_countEndless 0 := ⟨by decide, by decide, by decide +kernel, tM 702 (by decide +kernel) rfl, tM 92 (by decide +kernel) rfl, rfl, rfl⟩
theorem vf_X0_countEndless : VF md_X0_countEndless := ⟨tM 700 (by decide +kernel) rfl, tM 701 (by decide +kernel) rfl⟩
theorem mf_X0_flights : MF md_X0_flights 2 := ⟨by decide, by decide, by decide +kernel, tM 733 (by decide +kernel) rfl, tM 92 (by decide +kernel) rfl, rfl, rfl⟩
theorem vf_X0_flights : VF md_X0_flights := ⟨tM 731 (by decide +kernel) rfl, tM 732 (by decide +kernel) rfl⟩
theorem mf_X0_joinRows : MF md_X0_joinRows 3 := ⟨by decide, by decide, by decide +kernel, tM 642 (by decide +kernel) rfl, tM 92 (by decide +kernel) rfl, rfl, rfl⟩
theorem vf_X0_joinRows : VF md_X0_joinRows := ⟨tM 641 (by decide +kernel) rfl, tM 13 (by decide +kernel) rfl⟩
theorem mf_X0_leftAt : MF md_X0_leftAt 2 := ⟨by decide, by decide, by decide +kernel, tM 658 (by decide +kernel) rfl, tM 92 (by decide +kernel) rfl, rfl, rfl⟩
theorem vf_X0_leftAt : VF md_X0_leftAt := ⟨tM 657 (by decide +kernel) rfl, tM 15 (by decide +kernel) rfl⟩
theorem mf_X0_mostAmong : MF md_X0_mostAmong 2 := ⟨by decide, by decide, by decide +kernel, tM 670 (by decide +kernel) rfl, tM 92 (by decide +kernel) rfl, rfl, rfl⟩
theorem vf_X0_mostAmong : VF md_X0_mostAmong := ⟨tM 669 (by decide +kernel) rfl, tM 16 (by decide +kernel) rfl⟩
theorem mf_X0_mostFrom : MF md_X0_mostFrom 1 := ⟨by decide, by decide, by decide +kernel, tM 666 (by decide +kernel) rfl, tM 92 (by decide +kernel) rfl, rfl, rfl⟩
theorem vf_X0_mostFrom : VF md_X0_mostFrom := ⟨tM 664 (by decide +kernel) rfl, tM 665 (by decide +kernel) rfl⟩
theorem mf_X0_note : MF md_X0_note 1 := ⟨by decide, by decide, by decide +kernel, tM 650 (by decide +kernel) rfl, tM 92 (by decide +kernel) rfl, rfl, rfl⟩
theorem vf_X0_note : VF md_X0_note := ⟨tM 649 (by decide +kernel) rfl, tM 14 (by decide +kernel) rfl⟩
theorem mf_X0_roundsFrom : MF md_X0_roundsFrom 2 := ⟨by decide, by decide, by decide +kernel, tM 654 (by decide +kernel) rfl, tM 92 (by decide +kernel) rfl, rfl, rfl⟩
theorem vf_X0_roundsFrom : VF md_X0_roundsFrom := ⟨tM 652 (by decide +kernel) rfl, tM 653 (by decide +kernel) rfl⟩
theorem mf_X0_solve : MF md_X0_solve 0 := ⟨by decide, by decide, by decide +kernel, tM 593 (by decide +kernel) rfl, tM 92 (by decide +kernel) rfl, rfl, rfl⟩
theorem vf_X0_solve : VF md_X0_solve := ⟨tM 591 (by decide +kernel) rfl, tM 592 (by decide +kernel) rfl⟩
theorem mf_X0_trap : MF md_X0_trap 0 := ⟨by decide, by decide, by decide +kernel, tM 618 (by decide +kernel) rfl, tM 92 (by decide +kernel) rfl, rfl, rfl⟩
theorem vf_X0_trap : VF md_X0_trap := ⟨tM 617 (by decide +kernel) rfl, tM 11 (by decide +kernel) rfl⟩
theorem mf_X0_widen : MF md_X0_widen 1 := ⟨by decide, by decide, by decide +kernel, tM 635 (by decide +kernel) rfl, tM 92 (by decide +kernel) rfl, rfl, rfl⟩
theorem vf_X0_widen : VF md_X0_widen := ⟨tM 634 (by decide +kernel) rfl, tM 12 (by decide +kernel) rfl⟩
theorem mf_X10_answerOf : MF md_X10_answerOf 3 := ⟨by decide, by decide, by decide +kernel, tM 1476 (by decide +kernel) rfl, tM 98 (by decide +kernel) rfl, rfl, rfl⟩
theorem vf_X10_answerOf : VF md_X10_answerOf := ⟨tM 1475 (by decide +kernel) rfl, tM 85 (by decide +kernel) rfl⟩
theorem mf_X10_at : MF md_X10_at 4 := ⟨by decide, by decide, by decide +kernel, tM 1301 (by decide +kernel) rfl, tM 98 (by decide +kernel) rfl, rfl, rfl⟩
theorem vf_X10_at : Cond.static md_X10_at.1 ∈ tT := tM 1300 (by decide +kernel) rfl
theorem mf_X10_behind : MF md_X10_behind 4 := ⟨by decide, by decide, by decide +kernel, tM 1309 (by decide +kernel) rfl, tM 98 (by decide +kernel) rfl, rfl, rfl⟩
theorem vf_X10_behind : VF md_X10_behind := ⟨tM 1308 (by decide +kernel) rfl, tM 60 (by decide +kernel) rfl⟩
theorem mf_X10_bestOf : MF md_X10_bestOf 2 := ⟨by decide, by decide, by decide +kernel, tM 1333 (by decide +kernel) rfl, tM 98 (by decide +kernel) rfl, rfl, rfl⟩
theorem vf_X10_bestOf : VF md_X10_bestOf := ⟨tM 1332 (by decide +kernel) rfl, tM 64 (by decide +kernel) rfl⟩
theorem mf_X10_bits : MF md_X10_bits 1 := ⟨by decide, by decide, by decide +kernel, tM 1424 (by decide +kernel) rfl, tM 98 (by decide +kernel) rfl, rfl, rfl⟩
theorem vf_X10_bits : Cond.static md_X10_bits.1 ∈ tT := tM 1423 (by decide +kernel) rfl
theorem mf_X10_canAnswer : MF md_X10_canAnswer 2 := ⟨by decide, by decide, by decide +kernel, tM 1472 (by decide +kernel) rfl, tM 98 (by decide +kernel) rfl, rfl, rfl⟩
theorem vf_X10_canAnswer : VF md_X10_canAnswer := ⟨tM 1471 (by decide +kernel) rfl, tM 84 (by decide +kernel) rfl⟩
theorem mf_X10_canStep : MF md_X10_canStep 3 := ⟨by decide, by decide, by decide +kernel, tM 1397 (by decide +kernel) rfl, tM 98 (by decide +kernel) rfl, rfl, rfl⟩
theorem vf_X10_canStep : VF md_X10_canStep := ⟨tM 1396 (by decide +kernel) rfl, tM 71 (by decide +kernel) rfl⟩
theorem mf_X10_costOf : MF md_X10_costOf 3 := ⟨by decide, by decide, by decide +kernel, tM 1421 (by decide +kernel) rfl, tM 98 (by decide +kernel) rfl, rfl, rfl⟩
theorem vf_X10_costOf : VF md_X10_costOf := ⟨tM 1420 (by decide +kernel) rfl, tM 75 (by decide +kernel) rfl⟩
theorem mf_X10_coveredIn : MF md_X10_coveredIn 1 := ⟨by decide, by decide, by decide +kernel, tM 1440 (by decide +kernel) rfl, tM 98 (by decide +kernel) rfl, rfl, rfl⟩
theorem vf_X10_coveredIn : VF md_X10_coveredIn := ⟨tM 1439 (by decide +kernel) rfl, tM 78 (by decide +kernel) rfl⟩
theorem mf_X10_doesTouch : MF md_X10_doesTouch 1 := ⟨by decide, by decide, by decide +kernel, tM 1452 (by decide +kernel) rfl, tM 98 (by decide +kernel) rfl, rfl, rfl⟩
theorem vf_X10_doesTouch : VF md_X10_doesTouch := ⟨tM 1451 (by decide +kernel) rfl, tM 80 (by decide +kernel) rfl⟩
theorem mf_X10_fails : MF md_X10_fails 0 := ⟨by decide, by decide, by decide +kernel, tM 1220 (by decide +kernel) rfl, tM 98 (by decide +kernel) rfl, rfl, rfl⟩
theorem vf_X10_fails : VF md_X10_fails := ⟨tM 1219 (by decide +kernel) rfl, tM 45 (by decide +kernel) rfl⟩
theorem mf_X10_findClear : MF md_X10_findClear 2 := ⟨by decide, by decide, by decide +kernel, tM 1393 (by decide +kernel) rfl, tM 98 (by decide +kernel) rfl, rfl, rfl⟩
theorem vf_X10_findClear : VF md_X10_findClear := ⟨tM 1392 (by decide +kernel) rfl, tM 70 (by decide +kernel) rfl⟩
theorem mf_X10_findFlights : MF md_X10_findFlights 2 := ⟨by decide, by decide, by decide +kernel, tM 1279 (by decide +kernel) rfl, tM 98 (by decide +kernel) rfl, rfl, rfl⟩
theorem vf_X10_findFlights : VF md_X10_findFlights := ⟨tM 1278 (by decide +kernel) rfl, tM 54 (by decide +kernel) rfl⟩
theorem mf_X10_findGoes : MF md_X10_findGoes 0 := ⟨by decide, by decide, by decide +kernel, tM 1464 (by decide +kernel) rfl, tM 98 (by decide +kernel) rfl, rfl, rfl⟩
theorem vf_X10_findGoes : VF md_X10_findGoes := ⟨tM 1463 (by decide +kernel) rfl, tM 82 (by decide +kernel) rfl⟩
theorem mf_X10_findGood : MF md_X10_findGood 3 := ⟨by decide, by decide, by decide +kernel, tM 1305 (by decide +kernel) rfl, tM 98 (by decide +kernel) rfl, rfl, rfl⟩
theorem vf_X10_findGood : VF md_X10_findGood := ⟨tM 1304 (by decide +kernel) rfl, tM 59 (by decide +kernel) rfl⟩
theorem mf_X10_findRest : MF md_X10_findRest 1 := ⟨by decide, by decide, by decide +kernel, tM 1413 (by decide +kernel) rfl, tM 98 (by decide +kernel) rfl, rfl, rfl⟩
theorem vf_X10_findRest : VF md_X10_findRest := ⟨tM 1412 (by decide +kernel) rfl, tM 73 (by decide +kernel) rfl⟩
theorem mf_X10_fleeOf : MF md_X10_fleeOf 4 := ⟨by decide, by decide, by decide +kernel, tM 1357 (by decide +kernel) rfl, tM 98 (by decide +kernel) rfl, rfl, rfl⟩
theorem vf_X10_fleeOf : VF md_X10_fleeOf := ⟨tM 1356 (by decide +kernel) rfl, tM 66 (by decide +kernel) rfl⟩
theorem mf_X10_flight : MF md_X10_flight 3 := ⟨by decide, by decide, by decide +kernel, tM 1298 (by decide +kernel) rfl, tM 98 (by decide +kernel) rfl, rfl, rfl⟩
theorem vf_X10_flight : VF md_X10_flight := ⟨tM 1297 (by decide +kernel) rfl, tM 58 (by decide +kernel) rfl⟩
theorem mf_X10_forget : MF md_X10_forget 0 := ⟨by decide, by decide, by decide +kernel, tM 1232 (by decide +kernel) rfl, tM 98 (by decide +kernel) rfl, rfl, rfl⟩
theorem vf_X10_forget : VF md_X10_forget := ⟨tM 1231 (by decide +kernel) rfl, tM 47 (by decide +kernel) rfl⟩
theorem mf_X10_goOneMore : MF md_X10_goOneMore 1 := ⟨by decide, by decide, by decide +kernel, tM 1468 (by decide +kernel) rfl, tM 98 (by decide +kernel) rfl, rfl, rfl⟩
theorem vf_X10_goOneMore : VF md_X10_goOneMore := ⟨tM 1467 (by decide +kernel) rfl, tM 83 (by decide +kernel) rfl⟩
theorem mf_X10_greater : MF md_X10_greater 2 := ⟨by decide, by decide, by decide +kernel, tM 1428 (by decide +kernel) rfl, tM 98 (by decide +kernel) rfl, rfl, rfl⟩
theorem vf_X10_greater : VF md_X10_greater := ⟨tM 1427 (by decide +kernel) rfl, tM 76 (by decide +kernel) rfl⟩
theorem mf_X10_guard : MF md_X10_guard 0 := ⟨by decide, by decide, by decide +kernel, tM 1460 (by decide +kernel) rfl, tM 98 (by decide +kernel) rfl, rfl, rfl⟩
theorem vf_X10_guard : VF md_X10_guard := ⟨tM 1459 (by decide +kernel) rfl, tM 81 (by decide +kernel) rfl⟩
theorem mf_X10_huntOf : MF md_X10_huntOf 4 := ⟨by decide, by decide, by decide +kernel, tM 1349 (by decide +kernel) rfl, tM 98 (by decide +kernel) rfl, rfl, rfl⟩
theorem vf_X10_huntOf : VF md_X10_huntOf := ⟨tM 1348 (by decide +kernel) rfl, tM 65 (by decide +kernel) rfl⟩
theorem mf_X10_in : MF md_X10_in 3 := ⟨by decide, by decide, by decide +kernel, tM 1186 (by decide +kernel) rfl, tM 98 (by decide +kernel) rfl, rfl, rfl⟩
theorem vf_X10_in : Cond.static md_X10_in.1 ∈ tT := tM 1185 (by decide +kernel) rfl
theorem mf_X10_isCaught : MF md_X10_isCaught 0 := ⟨by decide, by decide, by decide +kernel, tM 1369 (by decide +kernel) rfl, tM 98 (by decide +kernel) rfl, rfl, rfl⟩
theorem vf_X10_isCaught : VF md_X10_isCaught := ⟨tM 1368 (by decide +kernel) rfl, tM 67 (by decide +kernel) rfl⟩
theorem mf_X10_isChase : MF md_X10_isChase 2 := ⟨by decide, by decide, by decide +kernel, tM 1263 (by decide +kernel) rfl, tM 98 (by decide +kernel) rfl, rfl, rfl⟩
theorem vf_X10_isChase : Cond.static md_X10_isChase.1 ∈ tT := tM 1262 (by decide +kernel) rfl
theorem mf_X10_isLine : MF md_X10_isLine 1 := ⟨by decide, by decide, by decide +kernel, tM 1203 (by decide +kernel) rfl, tM 98 (by decide +kernel) rfl, rfl, rfl⟩
theorem vf_X10_isLine : VF md_X10_isLine := ⟨tM 1202 (by decide +kernel) rfl, tM 43 (by decide +kernel) rfl⟩
theorem mf_X10_isNumber : MF md_X10_isNumber 3 := ⟨by decide, by decide, by decide +kernel, tM 1224 (by decide +kernel) rfl, tM 98 (by decide +kernel) rfl, rfl, rfl⟩
theorem vf_X10_isNumber : VF md_X10_isNumber := ⟨tM 1223 (by decide +kernel) rfl, tM 46 (by decide +kernel) rfl⟩
theorem mf_X10_isPlace : MF md_X10_isPlace 1 := ⟨by decide, by decide, by decide +kernel, tM 1240 (by decide +kernel) rfl, tM 98 (by decide +kernel) rfl, rfl, rfl⟩
theorem vf_X10_isPlace : VF md_X10_isPlace := ⟨tM 1239 (by decide +kernel) rfl, tM 48 (by decide +kernel) rfl⟩
theorem mf_X10_isRead : MF md_X10_isRead 0 := ⟨by decide, by decide, by decide +kernel, tM 1199 (by decide +kernel) rfl, tM 98 (by decide +kernel) rfl, rfl, rfl⟩
theorem vf_X10_isRead : VF md_X10_isRead := ⟨tM 1198 (by decide +kernel) rfl, tM 42 (by decide +kernel) rfl⟩
theorem mf_X10_isSet : MF md_X10_isSet 1 := ⟨by decide, by decide, by decide +kernel, tM 1381 (by decide +kernel) rfl, tM 98 (by decide +kernel) rfl, rfl, rfl⟩
theorem vf_X10_isSet : VF md_X10_isSet := ⟨tM 1380 (by decide +kernel) rfl, tM 68 (by decide +kernel) rfl⟩
theorem mf_X10_isSetting : MF md_X10_isSetting 2 := ⟨by decide, by decide, by decide +kernel, tM 1286 (by decide +kernel) rfl, tM 98 (by decide +kernel) rfl, rfl, rfl⟩
theorem vf_X10_isSetting : VF md_X10_isSetting := ⟨tM 1285 (by decide +kernel) rfl, tM 55 (by decide +kernel) rfl⟩
theorem mf_X10_joinBoth : MF md_X10_joinBoth 0 := ⟨by decide, by decide, by decide +kernel, tM 1417 (by decide +kernel) rfl, tM 98 (by decide +kernel) rfl, rfl, rfl⟩
theorem vf_X10_joinBoth : VF md_X10_joinBoth := ⟨tM 1416 (by decide +kernel) rfl, tM 74 (by decide +kernel) rfl⟩
theorem mf_X10_leavable : MF md_X10_leavable 2 := ⟨by decide, by decide, by decide +kernel, tM 1313 (by decide +kernel) rfl, tM 98 (by decide +kernel) rfl, rfl, rfl⟩
theorem vf_X10_leavable : VF md_X10_leavable := ⟨tM 1312 (by decide +kernel) rfl, tM 61 (by decide +kernel) rfl⟩
theorem mf_X10_lengthFound : MF md_X10_lengthFound 0 := ⟨by decide, by decide, by decide +kernel, tM 1401 (by decide +kernel) rfl, tM 98 (by decide +kernel) rfl, rfl, rfl⟩
theorem vf_X10_lengthFound : VF md_X10_lengthFound := ⟨tM 1400 (by decide +kernel) rfl, tM 72 (by decide +kernel) rfl⟩
theorem mf_X10_lesser : MF md_X10_lesser 2 := ⟨by decide, by decide, by decide +kernel, tM 1432 (by decide +kernel) rfl, tM 98 (by decide +kernel) rfl, rfl, rfl⟩
theorem vf_X10_lesser : VF md_X10_lesser := ⟨tM 1431 (by decide +kernel) rfl, tM 77 (by decide +kernel) rfl⟩
theorem mf_X10_moved : MF md_X10_moved 3 := ⟨by decide, by decide, by decide +kernel, tM 1317 (by decide +kernel) rfl, tM 98 (by decide +kernel) rfl, rfl, rfl⟩
theorem vf_X10_moved : VF md_X10_moved := ⟨tM 1316 (by decide +kernel) rfl, tM 62 (by decide +kernel) rfl⟩
theorem mf_X10_nextToken : MF md_X10_nextToken 0 := ⟨by decide, by decide, by decide +kernel, tM 1207 (by decide +kernel) rfl, tM 98 (by decide +kernel) rfl, rfl, rfl⟩
theorem vf_X10_nextToken : VF md_X10_nextToken := ⟨tM 1206 (by decide +kernel) rfl, tM 44 (by decide +kernel) rfl⟩
theorem mf_X10_placesOf : MF md_X10_placesOf 2 := ⟨by decide, by decide, by decide +kernel, tM 1294 (by decide +kernel) rfl, tM 98 (by decide +kernel) rfl, rfl, rfl⟩
theorem vf_X10_placesOf : VF md_X10_placesOf := ⟨tM 1293 (by decide +kernel) rfl, tM 57 (by decide +kernel) rfl⟩
theorem mf_X10_powerOf : MF md_X10_powerOf 1 := ⟨by decide, by decide, by decide +kernel, tM 1282 (by decide +kernel) rfl, tM 98 (by decide +kernel) rfl, rfl, rfl⟩
theorem vf_X10_powerOf : Cond.static md_X10_powerOf.1 ∈ tT := tM 1281 (by decide +kernel) rfl
theorem mf_X10_reckon : MF md_X10_reckon 2 := ⟨by decide, by decide, by decide +kernel, tM 1275 (by decide +kernel) rfl, tM 98 (by decide +kernel) rfl, rfl, rfl⟩
theorem vf_X10_reckon : VF md_X10_reckon := ⟨tM 1274 (by decide +kernel) rfl, tM 53 (by decide +kernel) rfl⟩
theorem mf_X10_settled : MF md_X10_settled 1 := ⟨by decide, by decide, by decide +kernel, tM 1271 (by decide +kernel) rfl, tM 98 (by decide +kernel) rfl, rfl, rfl⟩
theorem vf_X10_settled : VF md_X10_settled := ⟨tM 1270 (by decide +kernel) rfl, tM 52 (by decide +kernel) rfl⟩
theorem mf_X10_spell : MF md_X10_spell 2 := ⟨by decide, by decide, by decide +kernel, tM 1290 (by decide +kernel) rfl, tM 98 (by decide +kernel) rfl, rfl, rfl⟩
theorem vf_X10_spell : VF md_X10_spell := ⟨tM 1289 (by decide +kernel) rfl, tM 56 (by decide +kernel) rfl⟩
theorem mf_X10_spreadOf : MF md_X10_spreadOf 2 := ⟨by decide, by decide, by decide +kernel, tM 1385 (by decide +kernel) rfl, tM 98 (by decide +kernel) rfl, rfl, rfl⟩
theorem vf_X10_spreadOf : VF md_X10_spreadOf := ⟨tM 1384 (by decide +kernel) rfl, tM 69 (by decide +kernel) rfl⟩
theorem mf_X10_stepped : MF md_X10_stepped 1 := ⟨by decide, by decide, by decide +kernel, tM 1256 (by decide +kernel) rfl, tM 98 (by decide +kernel) rfl, rfl, rfl⟩
theorem vf_X10_stepped : VF md_X10_stepped := ⟨tM 1255 (by decide +kernel) rfl, tM 50 (by decide +kernel) rfl⟩
theorem mf_X10_stepsBoth : MF md_X10_stepsBoth 1 := ⟨by decide, by decide, by decide +kernel, tM 1444 (by decide +kernel) rfl, tM 98 (by decide +kernel) rfl, rfl, rfl⟩
theorem vf_X10_stepsBoth : VF md_X10_stepsBoth := ⟨tM 1443 (by decide +kernel) rfl, tM 79 (by decide +kernel) rfl⟩
theorem mf_X10_stepsFrom : MF md_X10_stepsFrom 1 := ⟨by decide, by decide, by decide +kernel, tM 1480 (by decide +kernel) rfl, tM 98 (by decide +kernel) rfl, rfl, rfl⟩
theorem vf_X10_stepsFrom : VF md_X10_stepsFrom := ⟨tM 1479 (by decide +kernel) rfl, tM 86 (by decide +kernel) rfl⟩
theorem mf_X10_stepsOf : MF md_X10_stepsOf 1 := ⟨by decide, by decide, by decide +kernel, tM 1248 (by decide +kernel) rfl, tM 98 (by decide +kernel) rfl, rfl, rfl⟩
theorem vf_X10_stepsOf : VF md_X10_stepsOf := ⟨tM 1247 (by decide +kernel) rfl, tM 49 (by decide +kernel) rfl⟩
theorem mf_X10_told : MF md_X10_told 2 := ⟨by decide, by decide, by decide +kernel, tM 1267 (by decide +kernel) rfl, tM 98 (by decide +kernel) rfl, rfl, rfl⟩
theorem vf_X10_told : VF md_X10_told := ⟨tM 1266 (by decide +kernel) rfl, tM 51 (by decide +kernel) rfl⟩
theorem mf_X10_worthOf : MF md_X10_worthOf 3 := ⟨by decide, by decide, by decide +kernel, tM 1325 (by decide +kernel) rfl, tM 98 (by decide +kernel) rfl, rfl, rfl⟩
theorem vf_X10_worthOf : VF md_X10_worthOf := ⟨tM 1324 (by decide +kernel) rfl, tM 63 (by decide +kernel) rfl⟩
theorem mf_X1_isCovered : MF md_X1_isCovered 2 := ⟨by decide, by decide, by decide +kernel, tM 929 (by decide +kernel) rfl, tM 96 (by decide +kernel) rfl, rfl, rfl⟩
theorem vf_X1_isCovered : VF md_X1_isCovered := ⟨tM 928 (by decide +kernel) rfl, tM 31 (by decide +kernel) rfl⟩
theorem mf_X1_leastCovered : MF md_X1_leastCovered 1 := ⟨by decide, by decide, by decide +kernel, tM 923 (by decide +kernel) rfl, tM 96 (by decide +kernel) rfl, rfl, rfl⟩
theorem vf_X1_leastCovered : VF md_X1_leastCovered := ⟨tM 922 (by decide +kernel) rfl, tM 30 (by decide +kernel) rfl⟩
theorem mf_X1_leastSet : MF md_X1_leastSet 1 := ⟨by decide, by decide, by decide +kernel, tM 942 (by decide +kernel) rfl, tM 96 (by decide +kernel) rfl, rfl, rfl⟩
theorem vf_X1_leastSet : VF md_X1_leastSet := ⟨tM 940 (by decide +kernel) rfl, tM 941 (by decide +kernel) rfl⟩
theorem mf_X1_takenAway : MF md_X1_takenAway 1 := ⟨by decide, by decide, by decide +kernel, tM 918 (by decide +kernel) rfl, tM 96 (by decide +kernel) rfl, rfl, rfl⟩
theorem vf_X1_takenAway : VF md_X1_takenAway := ⟨tM 916 (by decide +kernel) rfl, tM 917 (by decide +kernel) rfl⟩
theorem mf_X1_touchesAll : MF md_X1_touchesAll 1 := ⟨by decide, by decide, by decide +kernel, tM 947 (by decide +kernel) rfl, tM 96 (by decide +kernel) rfl, rfl, rfl⟩
theorem vf_X1_touchesAll : VF md_X1_touchesAll := ⟨tM 946 (by decide +kernel) rfl, tM 32 (by decide +kernel) rfl⟩
theorem mf_X2_addPlace : MF md_X2_addPlace 3 := ⟨by decide, by decide, by decide +kernel, tM 987 (by decide +kernel) rfl, tM 97 (by decide +kernel) rfl, rfl, rfl⟩
theorem vf_X2_addPlace : VF md_X2_addPlace := ⟨tM 986 (by decide +kernel) rfl, tM 37 (by decide +kernel) rfl⟩
theorem mf_X2_answersAll : MF md_X2_answersAll 1 := ⟨by decide, by decide, by decide +kernel, tM 1005 (by decide +kernel) rfl, tM 97 (by decide +kernel) rfl, rfl, rfl⟩
theorem vf_X2_answersAll : VF md_X2_answersAll := ⟨tM 1004 (by decide +kernel) rfl, tM 40 (by decide +kernel) rfl⟩
theorem mf_X2_answersIn : MF md_X2_answersIn 3 := ⟨by decide, by decide, by decide +kernel, tM 1009 (by decide +kernel) rfl, tM 97 (by decide +kernel) rfl, rfl, rfl⟩
theorem vf_X2_answersIn : VF md_X2_answersIn := ⟨tM 1008 (by decide +kernel) rfl, tM 41 (by decide +kernel) rfl⟩
theorem mf_X2_countSets : MF md_X2_countSets 1 := ⟨by decide, by decide, by decide +kernel, tM 1023 (by decide +kernel) rfl, tM 97 (by decide +kernel) rfl, rfl, rfl⟩
theorem vf_X2_countSets : VF md_X2_countSets := ⟨tM 1021 (by decide +kernel) rfl, tM 1022 (by decide +kernel) rfl⟩
theorem mf_X2_dropUnsafe : MF md_X2_dropUnsafe 0 := ⟨by decide, by decide, by decide +kernel, tM 997 (by decide +kernel) rfl, tM 97 (by decide +kernel) rfl, rfl, rfl⟩
theorem vf_X2_dropUnsafe : VF md_X2_dropUnsafe := ⟨tM 996 (by decide +kernel) rfl, tM 38 (by decide +kernel) rfl⟩
theorem mf_X2_having : MF md_X2_having 2 := ⟨by decide, by decide, by decide +kernel, tM 990 (by decide +kernel) rfl, tM 97 (by decide +kernel) rfl, rfl, rfl⟩
theorem vf_X2_having : Cond.static md_X2_having.1 ∈ tT := tM 989 (by decide +kernel) rfl
theorem mf_X2_holdsOut : MF md_X2_holdsOut 1 := ⟨by decide, by decide, by decide +kernel, tM 960 (by decide +kernel) rfl, tM 97 (by decide +kernel) rfl, rfl, rfl⟩
theorem vf_X2_holdsOut : VF md_X2_holdsOut := ⟨tM 958 (by decide +kernel) rfl, tM 959 (by decide +kernel) rfl⟩
theorem mf_X2_isSafe : MF md_X2_isSafe 1 := ⟨by decide, by decide, by decide +kernel, tM 1001 (by decide +kernel) rfl, tM 97 (by decide +kernel) rfl, rfl, rfl⟩
theorem vf_X2_isSafe : VF md_X2_isSafe := ⟨tM 1000 (by decide +kernel) rfl, tM 39 (by decide +kernel) rfl⟩
theorem mf_X2_leastAnswer : MF md_X2_leastAnswer 2 := ⟨by decide, by decide, by decide +kernel, tM 1031 (by decide +kernel) rfl, tM 97 (by decide +kernel) rfl, rfl, rfl⟩
theorem vf_X2_leastAnswer : VF md_X2_leastAnswer := ⟨tM 1029 (by decide +kernel) rfl, tM 1030 (by decide +kernel) rfl⟩
theorem mf_X2_leastSet : MF md_X2_leastSet 0 := ⟨by decide, by decide, by decide +kernel, tM 1017 (by decide +kernel) rfl, tM 97 (by decide +kernel) rfl, rfl, rfl⟩
theorem vf_X2_leastSet : VF md_X2_leastSet := ⟨tM 1015 (by decide +kernel) rfl, tM 1016 (by decide +kernel) rfl⟩
theorem mf_X2_moveAlone : MF md_X2_moveAlone 0 := ⟨by decide, by decide, by decide +kernel, tM 972 (by decide +kernel) rfl, tM 97 (by decide +kernel) rfl, rfl, rfl⟩
theorem vf_X2_moveAlone : VF md_X2_moveAlone := ⟨tM 971 (by decide +kernel) rfl, tM 35 (by decide +kernel) rfl⟩
theorem mf_X2_moveTogether : MF md_X2_moveTogether 0 := ⟨by decide, by decide, by decide +kernel, tM 983 (by decide +kernel) rfl, tM 97 (by decide +kernel) rfl, rfl, rfl⟩
theorem vf_X2_moveTogether : VF md_X2_moveTogether := ⟨tM 982 (by decide +kernel) rfl, tM 36 (by decide +kernel) rfl⟩
theorem mf_X2_put : MF md_X2_put 3 := ⟨by decide, by decide, by decide +kernel, tM 979 (by decide +kernel) rfl, tM 97 (by decide +kernel) rfl, rfl, rfl⟩
theorem vf_X2_put : Cond.static md_X2_put.1 ∈ tT := tM 978 (by decide +kernel) rfl
theorem mf_X2_solve : MF md_X2_solve 0 := ⟨by decide, by decide, by decide +kernel, tM 964 (by decide +kernel) rfl, tM 97 (by decide +kernel) rfl, rfl, rfl⟩
theorem vf_X2_solve : VF md_X2_solve := ⟨tM 963 (by decide +kernel) rfl, tM 34 (by decide +kernel) rfl⟩
theorem mf_X3_aheadOf : MF md_X3_aheadOf 1 := ⟨by decide, by decide, by decide +kernel, tM 561 (by decide +kernel) rfl, tM 89 (by decide +kernel) rfl, rfl, rfl⟩
theorem vf_X3_aheadOf : VF md_X3_aheadOf := ⟨tM 559 (by decide +kernel) rfl, tM 560 (by decide +kernel) rfl⟩
theorem mf_X3_all : MF md_X3_all 0 := ⟨by decide, by decide, by decide +kernel, tM 626 (by decide +kernel) rfl, tM 89 (by decide +kernel) rfl, rfl, rfl⟩
theorem vf_X3_all : VF md_X3_all := ⟨tM 624 (by decide +kernel) rfl, tM 625 (by decide +kernel) rfl⟩
theorem mf_X3_around : MF md_X3_around 1 := ⟨by decide, by decide, by decide +kernel, tM 895 (by decide +kernel) rfl, tM 89 (by decide +kernel) rfl, rfl, rfl⟩
theorem vf_X3_around : VF md_X3_around := ⟨tM 893 (by decide +kernel) rfl, tM 894 (by decide +kernel) rfl⟩
theorem mf_X3_behindOf : MF md_X3_behindOf 1 := ⟨by decide, by decide, by decide +kernel, tM 631 (by decide +kernel) rfl, tM 89 (by decide +kernel) rfl, rfl, rfl⟩
theorem vf_X3_behindOf : VF md_X3_behindOf := ⟨tM 629 (by decide +kernel) rfl, tM 630 (by decide +kernel) rfl⟩
theorem mf_X3_bothWays : MF md_X3_bothWays 1 := ⟨by decide, by decide, by decide +kernel, tM 933 (by decide +kernel) rfl, tM 89 (by decide +kernel) rfl, rfl, rfl⟩
theorem vf_X3_bothWays : VF md_X3_bothWays := ⟨tM 931 (by decide +kernel) rfl, tM 932 (by decide +kernel) rfl⟩
theorem mf_X3_changes : MF md_X3_changes 0 := ⟨by decide, by decide, by decide +kernel, tM 597 (by decide +kernel) rfl, tM 89 (by decide +kernel) rfl, rfl, rfl⟩
theorem vf_X3_changes : VF md_X3_changes := ⟨tM 595 (by decide +kernel) rfl, tM 596 (by decide +kernel) rfl⟩
theorem mf_X3_distance : MF md_X3_distance 2 := ⟨by decide, by decide, by decide +kernel, tM 556 (by decide +kernel) rfl, tM 89 (by decide +kernel) rfl, rfl, rfl⟩
theorem vf_X3_distance : VF md_X3_distance := ⟨tM 554 (by decide +kernel) rfl, tM 555 (by decide +kernel) rfl⟩
theorem mf_X3_holdsAll : MF md_X3_holdsAll 1 := ⟨by decide, by decide, by decide +kernel, tM 809 (by decide +kernel) rfl, tM 89 (by decide +kernel) rfl, rfl, rfl⟩
theorem vf_X3_holdsAll : VF md_X3_holdsAll := ⟨tM 807 (by decide +kernel) rfl, tM 808 (by decide +kernel) rfl⟩
theorem mf_X3_known : MF md_X3_known 1 := ⟨by decide, by decide, by decide +kernel, tM 525 (by decide +kernel) rfl, tM 89 (by decide +kernel) rfl, rfl, rfl⟩
theorem vf_X3_known : VF md_X3_known := ⟨tM 523 (by decide +kernel) rfl, tM 524 (by decide +kernel) rfl⟩
theorem mf_X3_leftBehind : MF md_X3_leftBehind 2 := ⟨by decide, by decide, by decide +kernel, tM 815 (by decide +kernel) rfl, tM 89 (by decide +kernel) rfl, rfl, rfl⟩
theorem vf_X3_leftBehind : VF md_X3_leftBehind := ⟨tM 813 (by decide +kernel) rfl, tM 814 (by decide +kernel) rfl⟩
theorem mf_X3_outOf : MF md_X3_outOf 1 := ⟨by decide, by decide, by decide +kernel, tM 541 (by decide +kernel) rfl, tM 89 (by decide +kernel) rfl, rfl, rfl⟩
theorem vf_X3_outOf : VF md_X3_outOf := ⟨tM 539 (by decide +kernel) rfl, tM 540 (by decide +kernel) rfl⟩
theorem mf_X3_pairs : MF md_X3_pairs 0 := ⟨by decide, by decide, by decide +kernel, tM 1045 (by decide +kernel) rfl, tM 89 (by decide +kernel) rfl, rfl, rfl⟩
theorem vf_X3_pairs : VF md_X3_pairs := ⟨tM 1043 (by decide +kernel) rfl, tM 1044 (by decide +kernel) rfl⟩
theorem mf_X3_places : MF md_X3_places 0 := ⟨by decide, by decide, by decide +kernel, tM 421 (by decide +kernel) rfl, tM 89 (by decide +kernel) rfl, rfl, rfl⟩
theorem vf_X3_places : VF md_X3_places := ⟨tM 419 (by decide +kernel) rfl, tM 420 (by decide +kernel) rfl⟩
theorem mf_X3_reset : MF md_X3_reset 1 := ⟨by decide, by decide, by decide +kernel, tM 125 (by decide +kernel) rfl, tM 89 (by decide +kernel) rfl, rfl, rfl⟩
theorem vf_X3_reset : VF md_X3_reset := ⟨tM 123 (by decide +kernel) rfl, tM 124 (by decide +kernel) rfl⟩
theorem mf_X3_set : MF md_X3_set 3 := ⟨by decide, by decide, by decide +kernel, tM 521 (by decide +kernel) rfl, tM 89 (by decide +kernel) rfl, rfl, rfl⟩
theorem vf_X3_set : VF md_X3_set := ⟨tM 519 (by decide +kernel) rfl, tM 520 (by decide +kernel) rfl⟩
theorem mf_X3_settle : MF md_X3_settle 0 := ⟨by decide, by decide, by decide +kernel, tM 129 (by decide +kernel) rfl, tM 89 (by decide +kernel) rfl, rfl, rfl⟩
theorem vf_X3_settle : VF md_X3_settle := ⟨tM 127 (by decide +kernel) rfl, tM 128 (by decide +kernel) rfl⟩
theorem mf_X4_border : MF md_X4_border 1 := ⟨by decide, by decide, by decide +kernel, tM 900 (by decide +kernel) rfl, tM 95 (by decide +kernel) rfl, rfl, rfl⟩
theorem vf_X4_border : VF md_X4_border := ⟨tM 899 (by decide +kernel) rfl, tM 28 (by decide +kernel) rfl⟩
theorem mf_X4_choose : MF md_X4_choose 0 := ⟨by decide, by decide, by decide +kernel, tM 905 (by decide +kernel) rfl, tM 95 (by decide +kernel) rfl, rfl, rfl⟩
theorem vf_X4_choose : VF md_X4_choose := ⟨tM 904 (by decide +kernel) rfl, tM 29 (by decide +kernel) rfl⟩
theorem mf_X4_hunters : MF md_X4_hunters 0 := ⟨by decide, by decide, by decide +kernel, tM 874 (by decide +kernel) rfl, tM 95 (by decide +kernel) rfl, rfl, rfl⟩
theorem vf_X4_hunters : VF md_X4_hunters := ⟨tM 872 (by decide +kernel) rfl, tM 873 (by decide +kernel) rfl⟩
theorem mf_X4_most : MF md_X4_most 2 := ⟨by decide, by decide, by decide +kernel, tM 887 (by decide +kernel) rfl, tM 95 (by decide +kernel) rfl, rfl, rfl⟩
theorem vf_X4_most : VF md_X4_most := ⟨tM 886 (by decide +kernel) rfl, tM 26 (by decide +kernel) rfl⟩
theorem mf_X4_neighbours : MF md_X4_neighbours 2 := ⟨by decide, by decide, by decide +kernel, tM 891 (by decide +kernel) rfl, tM 95 (by decide +kernel) rfl, rfl, rfl⟩
theorem vf_X4_neighbours : VF md_X4_neighbours := ⟨tM 890 (by decide +kernel) rfl, tM 27 (by decide +kernel) rfl⟩
theorem mf_X4_placeAt : MF md_X4_placeAt 1 := ⟨by decide, by decide, by decide +kernel, tM 909 (by decide +kernel) rfl, tM 95 (by decide +kernel) rfl, rfl, rfl⟩
theorem vf_X4_placeAt : VF md_X4_placeAt := ⟨tM 907 (by decide +kernel) rfl, tM 908 (by decide +kernel) rfl⟩
theorem mf_X4_solve : MF md_X4_solve 0 := ⟨by decide, by decide, by decide +kernel, tM 878 (by decide +kernel) rfl, tM 95 (by decide +kernel) rfl, rfl, rfl⟩
theorem vf_X4_solve : VF md_X4_solve := ⟨tM 877 (by decide +kernel) rfl, tM 25 (by decide +kernel) rfl⟩
theorem mf_X5_begin : MF md_X5_begin 4 := ⟨by decide, by decide, by decide +kernel, tM 751 (by decide +kernel) rfl, tM 93 (by decide +kernel) rfl, rfl, rfl⟩
theorem vf_X5_begin : VF md_X5_begin := ⟨tM 749 (by decide +kernel) rfl, tM 750 (by decide +kernel) rfl⟩
theorem mf_X5_end : MF md_X5_end 0 := ⟨by decide, by decide, by decide +kernel, tM 530 (by decide +kernel) rfl, tM 93 (by decide +kernel) rfl, rfl, rfl⟩
theorem vf_X5_end : VF md_X5_end := ⟨tM 528 (by decide +kernel) rfl, tM 529 (by decide +kernel) rfl⟩
theorem mf_X5_go : MF md_X5_go 2 := ⟨by decide, by decide, by decide +kernel, tM 793 (by decide +kernel) rfl, tM 93 (by decide +kernel) rfl, rfl, rfl⟩
theorem vf_X5_go : VF md_X5_go := ⟨tM 791 (by decide +kernel) rfl, tM 792 (by decide +kernel) rfl⟩
theorem mf_X5_gone : MF md_X5_gone 0 := ⟨by decide, by decide, by decide +kernel, tM 801 (by decide +kernel) rfl, tM 93 (by decide +kernel) rfl, rfl, rfl⟩
theorem vf_X5_gone : VF md_X5_gone := ⟨tM 799 (by decide +kernel) rfl, tM 800 (by decide +kernel) rfl⟩
theorem mf_X5_hunters : MF md_X5_hunters 0 := ⟨by decide, by decide, by decide +kernel, tM 767 (by decide +kernel) rfl, tM 93 (by decide +kernel) rfl, rfl, rfl⟩
theorem vf_X5_hunters : VF md_X5_hunters := ⟨tM 765 (by decide +kernel) rfl, tM 766 (by decide +kernel) rfl⟩
theorem mf_X5_isOn : MF md_X5_isOn 0 := ⟨by decide, by decide, by decide +kernel, tM 759 (by decide +kernel) rfl, tM 93 (by decide +kernel) rfl, rfl, rfl⟩
theorem vf_X5_isOn : VF md_X5_isOn := ⟨tM 757 (by decide +kernel) rfl, tM 758 (by decide +kernel) rfl⟩
theorem mf_X5_place : MF md_X5_place 0 := ⟨by decide, by decide, by decide +kernel, tM 775 (by decide +kernel) rfl, tM 93 (by decide +kernel) rfl, rfl, rfl⟩
theorem vf_X5_place : VF md_X5_place := ⟨tM 773 (by decide +kernel) rfl, tM 774 (by decide +kernel) rfl⟩
theorem mf_X5_setting : MF md_X5_setting 0 := ⟨by decide, by decide, by decide +kernel, tM 771 (by decide +kernel) rfl, tM 93 (by decide +kernel) rfl, rfl, rfl⟩
theorem vf_X5_setting : VF md_X5_setting := ⟨tM 769 (by decide +kernel) rfl, tM 770 (by decide +kernel) rfl⟩
theorem mf_X5_speed : MF md_X5_speed 0 := ⟨by decide, by decide, by decide +kernel, tM 783 (by decide +kernel) rfl, tM 93 (by decide +kernel) rfl, rfl, rfl⟩
theorem vf_X5_speed : VF md_X5_speed := ⟨tM 781 (by decide +kernel) rfl, tM 782 (by decide +kernel) rfl⟩
theorem mf_X6_canStep : MF md_X6_canStep 2 := ⟨by decide, by decide, by decide +kernel, tM 727 (by decide +kernel) rfl, tM 91 (by decide +kernel) rfl, rfl, rfl⟩
theorem vf_X6_canStep : VF md_X6_canStep := ⟨tM 725 (by decide +kernel) rfl, tM 726 (by decide +kernel) rfl⟩
theorem mf_X6_figure : MF md_X6_figure 2 := ⟨by decide, by decide, by decide +kernel, tM 196 (by decide +kernel) rfl, tM 91 (by decide +kernel) rfl, rfl, rfl⟩
theorem vf_X6_figure : VF md_X6_figure := ⟨tM 194 (by decide +kernel) rfl, tM 195 (by decide +kernel) rfl⟩
theorem mf_X6_holds : MF md_X6_holds 2 := ⟨by decide, by decide, by decide +kernel, tM 716 (by decide +kernel) rfl, tM 91 (by decide +kernel) rfl, rfl, rfl⟩
theorem vf_X6_holds : VF md_X6_holds := ⟨tM 714 (by decide +kernel) rfl, tM 715 (by decide +kernel) rfl⟩
theorem mf_X6_hunters : MF md_X6_hunters 0 := ⟨by decide, by decide, by decide +kernel, tM 613 (by decide +kernel) rfl, tM 91 (by decide +kernel) rfl, rfl, rfl⟩
theorem vf_X6_hunters : VF md_X6_hunters := ⟨tM 611 (by decide +kernel) rfl, tM 612 (by decide +kernel) rfl⟩
theorem mf_X6_isRow : MF md_X6_isRow 1 := ⟨by decide, by decide, by decide +kernel, tM 622 (by decide +kernel) rfl, tM 91 (by decide +kernel) rfl, rfl, rfl⟩
theorem vf_X6_isRow : VF md_X6_isRow := ⟨tM 620 (by decide +kernel) rfl, tM 621 (by decide +kernel) rfl⟩
theorem mf_X6_isSetting : MF md_X6_isSetting 1 := ⟨by decide, by decide, by decide +kernel, tM 683 (by decide +kernel) rfl, tM 91 (by decide +kernel) rfl, rfl, rfl⟩
theorem vf_X6_isSetting : VF md_X6_isSetting := ⟨tM 681 (by decide +kernel) rfl, tM 682 (by decide +kernel) rfl⟩
theorem mf_X6_placesOf : MF md_X6_placesOf 1 := ⟨by decide, by decide, by decide +kernel, tM 609 (by decide +kernel) rfl, tM 91 (by decide +kernel) rfl, rfl, rfl⟩
theorem vf_X6_placesOf : VF md_X6_placesOf := ⟨tM 607 (by decide +kernel) rfl, tM 608 (by decide +kernel) rfl⟩
theorem mf_X6_rising : MF md_X6_rising 1 := ⟨by decide, by decide, by decide +kernel, tM 688 (by decide +kernel) rfl, tM 91 (by decide +kernel) rfl, rfl, rfl⟩
theorem vf_X6_rising : VF md_X6_rising := ⟨tM 686 (by decide +kernel) rfl, tM 687 (by decide +kernel) rfl⟩
theorem mf_X6_size : MF md_X6_size 0 := ⟨by decide, by decide, by decide +kernel, tM 218 (by decide +kernel) rfl, tM 91 (by decide +kernel) rfl, rfl, rfl⟩
theorem vf_X6_size : VF md_X6_size := ⟨tM 216 (by decide +kernel) rfl, tM 217 (by decide +kernel) rfl⟩
theorem mf_X6_told : MF md_X6_told 1 := ⟨by decide, by decide, by decide +kernel, tM 584 (by decide +kernel) rfl, tM 91 (by decide +kernel) rfl, rfl, rfl⟩
theorem vf_X6_told : VF md_X6_told := ⟨tM 582 (by decide +kernel) rfl, tM 583 (by decide +kernel) rfl⟩
theorem mf_X7_append : MF md_X7_append 2 := ⟨by decide, by decide, by decide +kernel, tM 400 (by decide +kernel) rfl, tM 90 (by decide +kernel) rfl, rfl, rfl⟩
theorem vf_X7_append : VF md_X7_append := ⟨tM 398 (by decide +kernel) rfl, tM 399 (by decide +kernel) rfl⟩
theorem mf_X7_byteAt : MF md_X7_byteAt 1 := ⟨by decide, by decide, by decide +kernel, tM 437 (by decide +kernel) rfl, tM 90 (by decide +kernel) rfl, rfl, rfl⟩
theorem vf_X7_byteAt : VF md_X7_byteAt := ⟨tM 436 (by decide +kernel) rfl, tM 2 (by decide +kernel) rfl⟩
theorem mf_X7_drop : MF md_X7_drop 0 := ⟨by decide, by decide, by decide +kernel, tM 413 (by decide +kernel) rfl, tM 90 (by decide +kernel) rfl, rfl, rfl⟩
theorem vf_X7_drop : VF md_X7_drop := ⟨tM 411 (by decide +kernel) rfl, tM 412 (by decide +kernel) rfl⟩
theorem mf_X7_isWord : MF md_X7_isWord 1 := ⟨by decide, by decide, by decide +kernel, tM 453 (by decide +kernel) rfl, tM 90 (by decide +kernel) rfl, rfl, rfl⟩
theorem vf_X7_isWord : VF md_X7_isWord := ⟨tM 452 (by decide +kernel) rfl, tM 5 (by decide +kernel) rfl⟩
theorem mf_X7_kindAt : MF md_X7_kindAt 1 := ⟨by decide, by decide, by decide +kernel, tM 444 (by decide +kernel) rfl, tM 90 (by decide +kernel) rfl, rfl, rfl⟩
theorem vf_X7_kindAt : VF md_X7_kindAt := ⟨tM 443 (by decide +kernel) rfl, tM 3 (by decide +kernel) rfl⟩
theorem mf_X7_layOn : MF md_X7_layOn 1 := ⟨by decide, by decide, by decide +kernel, tM 516 (by decide +kernel) rfl, tM 90 (by decide +kernel) rfl, rfl, rfl⟩
theorem vf_X7_layOn : VF md_X7_layOn := ⟨tM 514 (by decide +kernel) rfl, tM 515 (by decide +kernel) rfl⟩
theorem mf_X7_length : MF md_X7_length 0 := ⟨by decide, by decide, by decide +kernel, tM 405 (by decide +kernel) rfl, tM 90 (by decide +kernel) rfl, rfl, rfl⟩
theorem vf_X7_length : VF md_X7_length := ⟨tM 403 (by decide +kernel) rfl, tM 404 (by decide +kernel) rfl⟩
theorem mf_X7_lineKind : MF md_X7_lineKind 0 := ⟨by decide, by decide, by decide +kernel, tM 448 (by decide +kernel) rfl, tM 90 (by decide +kernel) rfl, rfl, rfl⟩
theorem vf_X7_lineKind : VF md_X7_lineKind := ⟨tM 447 (by decide +kernel) rfl, tM 4 (by decide +kernel) rfl⟩
theorem mf_X7_nextToken : MF md_X7_nextToken 0 := ⟨by decide, by decide, by decide +kernel, tM 433 (by decide +kernel) rfl, tM 90 (by decide +kernel) rfl, rfl, rfl⟩
theorem vf_X7_nextToken : VF md_X7_nextToken := ⟨tM 432 (by decide +kernel) rfl, tM 1 (by decide +kernel) rfl⟩
theorem mf_X7_number : MF md_X7_number 0 := ⟨by decide, by decide, by decide +kernel, tM 507 (by decide +kernel) rfl, tM 90 (by decide +kernel) rfl, rfl, rfl⟩
theorem vf_X7_number : VF md_X7_number := ⟨tM 506 (by decide +kernel) rfl, tM 6 (by decide +kernel) rfl⟩
theorem mf_X7_read : MF md_X7_read 1 := ⟨by decide, by decide, by decide +kernel, tM 425 (by decide +kernel) rfl, tM 90 (by decide +kernel) rfl, rfl, rfl⟩
theorem vf_X7_read : VF md_X7_read := ⟨tM 423 (by decide +kernel) rfl, tM 424 (by decide +kernel) rfl⟩
theorem mf_X7_readLine : MF md_X7_readLine 1 := ⟨by decide, by decide, by decide +kernel, tM 429 (by decide +kernel) rfl, tM 90 (by decide +kernel) rfl, rfl, rfl⟩
theorem vf_X7_readLine : VF md_X7_readLine := ⟨tM 428 (by decide +kernel) rfl, tM 0 (by decide +kernel) rfl⟩
theorem mf_X8_depthOf : MF md_X8_depthOf 1 := ⟨by decide, by decide, by decide +kernel, tM 850 (by decide +kernel) rfl, tM 94 (by decide +kernel) rfl, rfl, rfl⟩
theorem vf_X8_depthOf : VF md_X8_depthOf := ⟨tM 849 (by decide +kernel) rfl, tM 23 (by decide +kernel) rfl⟩
theorem mf_X8_expand : MF md_X8_expand 1 := ⟨by decide, by decide, by decide +kernel, tM 838 (by decide +kernel) rfl, tM 94 (by decide +kernel) rfl, rfl, rfl⟩
theorem vf_X8_expand : VF md_X8_expand := ⟨tM 837 (by decide +kernel) rfl, tM 21 (by decide +kernel) rfl⟩
theorem mf_X8_length : MF md_X8_length 0 := ⟨by decide, by decide, by decide +kernel, tM 858 (by decide +kernel) rfl, tM 94 (by decide +kernel) rfl, rfl, rfl⟩
theorem vf_X8_length : VF md_X8_length := ⟨tM 856 (by decide +kernel) rfl, tM 857 (by decide +kernel) rfl⟩
theorem mf_X8_meet : MF md_X8_meet 3 := ⟨by decide, by decide, by decide +kernel, tM 833 (by decide +kernel) rfl, tM 94 (by decide +kernel) rfl, rfl, rfl⟩
theorem vf_X8_meet : VF md_X8_meet := ⟨tM 832 (by decide +kernel) rfl, tM 20 (by decide +kernel) rfl⟩
theorem mf_X8_parentOf : MF md_X8_parentOf 1 := ⟨by decide, by decide, by decide +kernel, tM 854 (by decide +kernel) rfl, tM 94 (by decide +kernel) rfl, rfl, rfl⟩
theorem vf_X8_parentOf : VF md_X8_parentOf := ⟨tM 853 (by decide +kernel) rfl, tM 24 (by decide +kernel) rfl⟩
theorem mf_X8_search : MF md_X8_search 2 := ⟨by decide, by decide, by decide +kernel, tM 823 (by decide +kernel) rfl, tM 94 (by decide +kernel) rfl, rfl, rfl⟩
theorem vf_X8_search : VF md_X8_search := ⟨tM 821 (by decide +kernel) rfl, tM 822 (by decide +kernel) rfl⟩
theorem mf_X8_settingAt : MF md_X8_settingAt 1 := ⟨by decide, by decide, by decide +kernel, tM 862 (by decide +kernel) rfl, tM 94 (by decide +kernel) rfl, rfl, rfl⟩
theorem vf_X8_settingAt : VF md_X8_settingAt := ⟨tM 860 (by decide +kernel) rfl, tM 861 (by decide +kernel) rfl⟩
theorem mf_X8_step : MF md_X8_step 2 := ⟨by decide, by decide, by decide +kernel, tM 845 (by decide +kernel) rfl, tM 94 (by decide +kernel) rfl, rfl, rfl⟩
theorem vf_X8_step : VF md_X8_step := ⟨tM 844 (by decide +kernel) rfl, tM 22 (by decide +kernel) rfl⟩
theorem mf_X9_chase : MF md_X9_chase 2 := ⟨by decide, by decide, by decide +kernel, tM 589 (by decide +kernel) rfl, tM 88 (by decide +kernel) rfl, rfl, rfl⟩
theorem vf_X9_chase : VF md_X9_chase := ⟨tM 588 (by decide +kernel) rfl, tM 9 (by decide +kernel) rfl⟩
theorem mf_X9_has : MF md_X9_has 2 := ⟨by decide, by decide, by decide +kernel, tM 544 (by decide +kernel) rfl, tM 88 (by decide +kernel) rfl, rfl, rfl⟩
theorem vf_X9_has : Cond.static md_X9_has.1 ∈ tT := tM 543 (by decide +kernel) rfl
theorem mf_X9_isCaught : MF md_X9_isCaught 0 := ⟨by decide, by decide, by decide +kernel, tM 763 (by decide +kernel) rfl, tM 88 (by decide +kernel) rfl, rfl, rfl⟩
theorem vf_X9_isCaught : VF md_X9_isCaught := ⟨tM 762 (by decide +kernel) rfl, tM 17 (by decide +kernel) rfl⟩
theorem mf_X9_isChase : MF md_X9_isChase 2 := ⟨by decide, by decide, by decide +kernel, tM 572 (by decide +kernel) rfl, tM 88 (by decide +kernel) rfl, rfl, rfl⟩
theorem vf_X9_isChase : Cond.static md_X9_isChase.1 ∈ tT := tM 571 (by decide +kernel) rfl
theorem mf_X9_isWatch : MF md_X9_isWatch 2 := ⟨by decide, by decide, by decide +kernel, tM 956 (by decide +kernel) rfl, tM 88 (by decide +kernel) rfl, rfl, rfl⟩
theorem vf_X9_isWatch : VF md_X9_isWatch := ⟨tM 955 (by decide +kernel) rfl, tM 33 (by decide +kernel) rfl⟩
theorem mf_X9_placeBehind : MF md_X9_placeBehind 2 := ⟨by decide, by decide, by decide +kernel, tM 788 (by decide +kernel) rfl, tM 88 (by decide +kernel) rfl, rfl, rfl⟩
theorem vf_X9_placeBehind : VF md_X9_placeBehind := ⟨tM 787 (by decide +kernel) rfl, tM 19 (by decide +kernel) rfl⟩
theorem mf_X9_refuseStand : MF md_X9_refuseStand 4 := ⟨by decide, by decide, by decide +kernel, tM 569 (by decide +kernel) rfl, tM 88 (by decide +kernel) rfl, rfl, rfl⟩
theorem vf_X9_refuseStand : VF md_X9_refuseStand := ⟨tM 568 (by decide +kernel) rfl, tM 7 (by decide +kernel) rfl⟩
theorem mf_X9_settingBehind : MF md_X9_settingBehind 1 := ⟨by decide, by decide, by decide +kernel, tM 779 (by decide +kernel) rfl, tM 88 (by decide +kernel) rfl, rfl, rfl⟩
theorem vf_X9_settingBehind : VF md_X9_settingBehind := ⟨tM 778 (by decide +kernel) rfl, tM 18 (by decide +kernel) rfl⟩
theorem mf_X9_settings : MF md_X9_settings 1 := ⟨by decide, by decide, by decide +kernel, tM 576 (by decide +kernel) rfl, tM 88 (by decide +kernel) rfl, rfl, rfl⟩
theorem vf_X9_settings : VF md_X9_settings := ⟨tM 575 (by decide +kernel) rfl, tM 8 (by decide +kernel) rfl⟩
section ROWS2
variable {ρ : Type} {Q : ρ → State → Prop} {Γ : Gm} {Ξ : Gx} {E : Ev} {μ : Md} {σ : St} {pc : Nat} {lv : List (Nat × Value)} {st : List Value} {o oT oF : Option ρ}
theorem s_acmp_ne {off : Int} {i j : Nat} (tgt : Nat) (hF : Full E) (hi : i < 3) (hj : j < 3) (hd : decode μ.2.1 pc = .ok (.if_acmp .ne off, 3)) (ht : (pc : Int) + off = (tgt : Int)) (kT : Sim Q Γ Ξ E μ σ (pc + 3) lv st oT) (kF : Sim Q Γ Ξ E μ σ tgt lv st oF) : Sim Q Γ Ξ E μ σ pc lv (rV E (32 + 2 * j) :: rV E (32 + 2 * i) :: st) (if i = j then oT else oF) := by
  intro Cc r ho ls H locs hl hP hS
  obtain ⟨hx, hb, hml, hr, hown', hts, hlocks, hK, ⟨hE, hA, hcc, hcs⟩, hKs⟩ := id Cc
  refine lv_acmp_ne (rx := some (E.2.2.1 (32 + 2 * i))) (ry := some (E.2.2.1 (32 + 2 * j))) hx hb hd ht (fun c => kF Cc r ?_ ls H locs hl hP hS) (fun c => kT Cc r ?_ ls H locs hl hP hS)
  · rw [if_neg (fun e => c (by rw [e]))] at ho; exact ho
  · have e : i = j := by
      have := hE.2 _ _ (mS hF hi) (mS hF hj) (Option.some.inj c)
      omega
    rw [if_pos e] at ho; exact ho
def cpy {R : Type} (σ : St) (a n0 b n1 : Nat) (sp dp n : Int32) (K : St → Option R) : Option R := if ¬ sp < 0 ∧ ¬ dp < 0 ∧ ¬ n < 0 ∧ sp.toNatClampNeg + n.toNatClampNeg ≤ n0 ∧ dp.toNatClampNeg + n.toNatClampNeg ≤ n1 then K (setR σ b (va_cpy (σ.1 a) (σ.1 b) sp.toNatClampNeg dp.toNatClampNeg n.toNatClampNeg)) else none
theorem cpyN : Cond.native arraycopyName ∈ tT := tM 646 (by decide +kernel) rfl
theorem cpyS : Cond.static arraycopyName ∈ tT := tM 645 (by decide +kernel) rfl
theorem cpyI : Cond.initialized "java/lang/System" ∈ tT := tM 105 (by decide +kernel) rfl
theorem s_copy {a b n0 n1 idx : Nat} {sp dp n : Int32} {K : St → Option ρ} (hL : Cond.methodLink μ.1.cls idx arraycopyName ∈ tT) (hma : a ∈ E.2.2.2.1) (hka : kd a = 11) (hla : ln a = n0) (hmb : b ∈ E.2.2.2.1) (hkb : kd b = 11) (hlb : ln b = n1) (hR : ((1).ble μ.2.2.2.2.frames && ((st.map fun v => v.category).sum + (nativeFrameWords "java/lang/System" "arraycopy" 5 + 11)).ble μ.2.2.2.2.locals) = true) (hd : decode μ.2.1 pc = .ok (.invokestatic idx, 3)) (kk : ∀ σ1, Sim Q Γ Ξ E μ σ1 (pc + 3) lv st (K σ1)) : Sim Q Γ Ξ E μ σ pc lv (.int n :: .int dp :: rV E b :: .int sp :: rV E a :: st) (cpy σ a n0 b n1 sp dp n K) := by
  subst hla
  subst hlb
  intro Cc r ho ls H locs hl hP hS
  obtain ⟨hx, hb, hml, hr, hown', hts, hlocks, hK, ⟨hE, hA, hcc, hcs⟩, hKs⟩ := id Cc
  unfold cpy at ho
  by_cases hc : ¬ sp < 0 ∧ ¬ dp < 0 ∧ ¬ n < 0 ∧ sp.toNatClampNeg + n.toNatClampNeg ≤ ln a ∧ dp.toNatClampNeg + n.toNatClampNeg ≤ ln b
  · rw [if_pos hc] at ho
    obtain ⟨h1, h2, h3, h4, h5⟩ := hc
    rw [Bool.and_eq_true] at hR
    obtain ⟨q0, hq0, hqa⟩ := ws_get σ hma
    rw [cont_i E σ hka] at hqa
    obtain ⟨q1, hq1, hqb⟩ := ws_get σ hmb
    rw [cont_i E σ hkb] at hqb
    refine va_copyi hx hb (hml.trans hl.1.symm) hown' (hts _ hL) (hts _ cpyN) (hts _ cpyS) (hts _ cpyI) hK hP (ws_D hE hA σ) hS q0 q1 0 0 hqa hqb rfl rfl rfl h1 h2 h3 h4 h5 (fun _ _ => rfl) (Nat.le_of_ble_eq_true hR.1) (Nat.le_of_ble_eq_true hR.2) hd (fun H1 locs1 hP1 _ hS1 => ?_)
    refine kk _ Cc r ho ls H1 locs1 hl ?_ hS1
    rw [← setR_s σ b (va_cpy (σ.1 a) (σ.1 b) sp.toNatClampNeg dp.toNatClampNeg n.toNatClampNeg), ← cont_i E (setR σ b _) hkb, ws_set hE hq1 (fun c hc => cont_cg E (setR_n σ _ hc) rfl)] at hP1
    exact hP1
  · rw [if_neg hc] at ho; cases ho
theorem s_tsw3 {x : Int32} {dflt o0 o1 o2 : Int} {len tD t0 t1 t2 : Nat} {oD O0 O1 O2 : Option ρ} (hd : decode μ.2.1 pc = .ok (.tableswitch dflt 0 2 #[o0, o1, o2], len)) (hD : (pc : Int) + dflt = (tD : Int)) (h0 : (pc : Int) + o0 = (t0 : Int)) (h1 : (pc : Int) + o1 = (t1 : Int)) (h2 : (pc : Int) + o2 = (t2 : Int)) (kD : Sim Q Γ Ξ E μ σ tD lv st oD) (k0 : Sim Q Γ Ξ E μ σ t0 lv st O0) (k1 : Sim Q Γ Ξ E μ σ t1 lv st O1) (k2 : Sim Q Γ Ξ E μ σ t2 lv st O2) : Sim Q Γ Ξ E μ σ pc lv (.int x :: st) (if x = 0 then O0 else (if x = 1 then O1 else (if x = 2 then O2 else oD))) := by
  intro Cc r ho ls H locs hl hP hS
  obtain ⟨hx, hb, hml, hr, hown', hts, hlocks, hK, ⟨hE, hA, hcc, hcs⟩, hKs⟩ := id Cc
  by_cases c0 : x = 0
  · rw [if_pos c0] at ho
    subst c0
    exact lv_tableIn hx hb hd (by decide) (by decide) (off := o0) rfl h0 (k0 Cc r ho ls H locs hl hP hS)
  by_cases c1 : x = 1
  · rw [if_neg c0, if_pos c1] at ho
    subst c1
    exact lv_tableIn hx hb hd (by decide) (by decide) (off := o1) rfl h1 (k1 Cc r ho ls H locs hl hP hS)
  by_cases c2 : x = 2
  · rw [if_neg c0, if_neg c1, if_pos c2] at ho
    subst c2
    exact lv_tableIn hx hb hd (by decide) (by decide) (off := o2) rfl h2 (k2 Cc r ho ls H locs hl hP hS)
  rw [if_neg c0, if_neg c1, if_neg c2] at ho
  refine lv_tableOut hx hb hd ?_ hD (kD Cc r ho ls H locs hl hP hS)
  have e0 := lv_neT (a := 0) c0 (by decide)
  have e1 := lv_neT (a := 1) c1 (by decide)
  have e2 := lv_neT (a := 2) c2 (by decide)
  omega
theorem s_tsw4 {x : Int32} {dflt o0 o1 o2 o3 : Int} {len tD t0 t1 t2 t3 : Nat} {oD O0 O1 O2 O3 : Option ρ} (hd : decode μ.2.1 pc = .ok (.tableswitch dflt 0 3 #[o0, o1, o2, o3], len)) (hD : (pc : Int) + dflt = (tD : Int)) (h0 : (pc : Int) + o0 = (t0 : Int)) (h1 : (pc : Int) + o1 = (t1 : Int)) (h2 : (pc : Int) + o2 = (t2 : Int)) (h3 : (pc : Int) + o3 = (t3 : Int)) (kD : Sim Q Γ Ξ E μ σ tD lv st oD) (k0 : Sim Q Γ Ξ E μ σ t0 lv st O0) (k1 : Sim Q Γ Ξ E μ σ t1 lv st O1) (k2 : Sim Q Γ Ξ E μ σ t2 lv st O2) (k3 : Sim Q Γ Ξ E μ σ t3 lv st O3) : Sim Q Γ Ξ E μ σ pc lv (.int x :: st) (if x = 0 then O0 else (if x = 1 then O1 else (if x = 2 then O2 else (if x = 3 then O3 else oD)))) := by
  intro Cc r ho ls H locs hl hP hS
  obtain ⟨hx, hb, hml, hr, hown', hts, hlocks, hK, ⟨hE, hA, hcc, hcs⟩, hKs⟩ := id Cc
  by_cases c0 : x = 0
  · rw [if_pos c0] at ho
    subst c0
    exact lv_tableIn hx hb hd (by decide) (by decide) (off := o0) rfl h0 (k0 Cc r ho ls H locs hl hP hS)
  by_cases c1 : x = 1
  · rw [if_neg c0, if_pos c1] at ho
    subst c1
    exact lv_tableIn hx hb hd (by decide) (by decide) (off := o1) rfl h1 (k1 Cc r ho ls H locs hl hP hS)
  by_cases c2 : x = 2
  · rw [if_neg c0, if_neg c1, if_pos c2] at ho
    subst c2
    exact lv_tableIn hx hb hd (by decide) (by decide) (off := o2) rfl h2 (k2 Cc r ho ls H locs hl hP hS)
  by_cases c3 : x = 3
  · rw [if_neg c0, if_neg c1, if_neg c2, if_pos c3] at ho
    subst c3
    exact lv_tableIn hx hb hd (by decide) (by decide) (off := o3) rfl h3 (k3 Cc r ho ls H locs hl hP hS)
  rw [if_neg c0, if_neg c1, if_neg c2, if_neg c3] at ho
  refine lv_tableOut hx hb hd ?_ hD (kD Cc r ho ls H locs hl hP hS)
  have e0 := lv_neT (a := 0) c0 (by decide)
  have e1 := lv_neT (a := 1) c1 (by decide)
  have e2 := lv_neT (a := 2) c2 (by decide)
  have e3 := lv_neT (a := 3) c3 (by decide)
  omega
theorem s_lsw2 {x : Int32} {dflt o0 o1 : Int} {len tD t0 t1 : Nat} {oD O0 O1 : Option ρ} (hd : decode μ.2.1 pc = .ok (.lookupswitch dflt #[(0, o0), (1, o1)], len)) (hD : (pc : Int) + dflt = (tD : Int)) (h0 : (pc : Int) + o0 = (t0 : Int)) (h1 : (pc : Int) + o1 = (t1 : Int)) (kD : Sim Q Γ Ξ E μ σ tD lv st oD) (k0 : Sim Q Γ Ξ E μ σ t0 lv st O0) (k1 : Sim Q Γ Ξ E μ σ t1 lv st O1) : Sim Q Γ Ξ E μ σ pc lv (.int x :: st) (if x = 0 then O0 else (if x = 1 then O1 else oD)) := by
  intro Cc r ho ls H locs hl hP hS
  obtain ⟨hx, hb, hml, hr, hown', hts, hlocks, hK, ⟨hE, hA, hcc, hcs⟩, hKs⟩ := id Cc
  by_cases c0 : x = 0
  · rw [if_pos c0] at ho
    subst c0
    exact lv_lookup hx hb hd rfl (off := o0) rfl h0 (k0 Cc r ho ls H locs hl hP hS)
  by_cases c1 : x = 1
  · rw [if_neg c0, if_pos c1] at ho
    subst c1
    exact lv_lookup hx hb hd rfl (off := o1) rfl h1 (k1 Cc r ho ls H locs hl hP hS)
  rw [if_neg c0, if_neg c1] at ho
  refine lv_lookup hx hb hd rfl (off := dflt) ?_ hD (kD Cc r ho ls H locs hl hP hS)
  rw [show (#[((0 : Int), o0), ((1 : Int), o1)] : Array (Int × Int)).toList = [(0, o0), (1, o1)] from rfl, lv_osw c0 (by decide), lv_osw c1 (by decide)]
  rfl
theorem s_ldcT0 (hown : μ.1.cls = "RunnerNet$Text") (hd : decode μ.2.1 pc = .ok (.ldc 82, 2)) (k : Sim Q Γ Ξ E μ σ (pc + 2) lv (rV E (130 + 0) :: st) o) : Sim Q Γ Ξ E μ σ pc lv st o := by
  intro Cc r ho ls H locs hl hP hS
  obtain ⟨hx, hb, hml, hr, hown', hts, hlocks, hK, ⟨hE, hA, hcc, hcs⟩, hKs⟩ := id Cc
  rw [hown] at hown'
  obtain ⟨h4, h5, h6, h7⟩ := hKs.2.2.1
  exact va_ldcS hx hb hown' h5 hd (k Cc r ho ls H locs hl hP hS)
theorem s_ldcT1 (hown : μ.1.cls = "RunnerNet$Text") (hd : decode μ.2.1 pc = .ok (.ldc 88, 2)) (k : Sim Q Γ Ξ E μ σ (pc + 2) lv (rV E (130 + 1) :: st) o) : Sim Q Γ Ξ E μ σ pc lv st o := by
  intro Cc r ho ls H locs hl hP hS
  obtain ⟨hx, hb, hml, hr, hown', hts, hlocks, hK, ⟨hE, hA, hcc, hcs⟩, hKs⟩ := id Cc
  rw [hown] at hown'
  obtain ⟨h4, h5, h6, h7⟩ := hKs.2.2.1
  exact va_ldcS hx hb hown' h6 hd (k Cc r ho ls H locs hl hP hS)
theorem s_ldcT2 (hown : μ.1.cls = "RunnerNet$Text") (hd : decode μ.2.1 pc = .ok (.ldc 90, 2)) (k : Sim Q Γ Ξ E μ σ (pc + 2) lv (rV E (130 + 2) :: st) o) : Sim Q Γ Ξ E μ σ pc lv st o := by
  intro Cc r ho ls H locs hl hP hS
  obtain ⟨hx, hb, hml, hr, hown', hts, hlocks, hK, ⟨hE, hA, hcc, hcs⟩, hKs⟩ := id Cc
  rw [hown] at hown'
  obtain ⟨h4, h5, h6, h7⟩ := hKs.2.2.1
  exact va_ldcS hx hb hown' h7 hd (k Cc r ho ls H locs hl hP hS)
/-- texts: rows on 130 + w, 140 + w -/
def ckC {R : Type} (x : Int32) (k : Option R) : Option R := if x &&& 255 = x then k else none
theorem s_ckC {x : Int32} (k : x &&& 255 = x → Sim Q Γ Ξ E μ σ pc lv st o) : Sim Q Γ Ξ E μ σ pc lv st (ckC x o) := by
  intro C r ho
  unfold ckC at ho
  by_cases h : x &&& 255 = x
  · rw [if_pos h] at ho; exact k h C r ho
  · rw [if_neg h] at ho; cases ho
theorem s_none : Sim Q Γ Ξ E μ σ pc lv st none := fun _ _ h => by cases h
theorem s_i2c {x v : Int32} (hd : decode μ.2.1 pc = .ok (.i2c, 1)) (hv : (x.toUInt32 % 65536).toInt32 = v) (k : Sim Q Γ Ξ E μ σ (pc + 1) lv (.int v :: st) o) : Sim Q Γ Ξ E μ σ pc lv (.int x :: st) o := by
  intro C r ho ls H locs hl hP hS
  exact lv_i2c C.1 C.2.1 hd hv (k C r ho ls H locs hl hP hS)
theorem s_nreturn {en : ρ → Option Value} {fs : ρ → St} {x : Int32} {y : ρ} {ty : FieldType} (hr : μ.2.2.2.1 = some ty) (hn : narrow ty (.int x) = .int x) (he : en y = some (.int x)) (hf : fs y = σ) (hd : decode μ.2.1 pc = .ok (.ireturn, 1)) : Sim (qM en fs Γ E) Γ (x0 E) E μ σ pc lv [.int x] (some y) := by
  intro Cc r ho ls H locs hl hP hS
  cases ho
  obtain ⟨hx, hb, hml, hr', hown', hts, hlocks, hK, ⟨hE, hA, hcc, hcs⟩, hKs⟩ := id Cc
  exact W.zret hx hb (hr'.trans hr) hn (fun t ht hW => ⟨⟨by rw [he], by rw [ht, hf]; exact hP⟩, hS.F ht⟩) hS.2.2 hd hlocks
theorem s_getTV {own : String} {idx w : Nat} (hown : μ.1.cls = own) (hw : w < 3) (hL : Cond.fieldLink own idx "java/lang/String" "value" "[B" ∈ tT) (hd : decode μ.2.1 pc = .ok (.getfield idx, 3)) (kk : Sim Q Γ Ξ E μ σ (pc + 3) lv (rV E (140 + w) :: st) o) : Sim Q Γ Ξ E μ σ pc lv (rV E (130 + w) :: st) o := by
  intro Cc r ho ls H locs hl hP hS
  obtain ⟨hx, hb, hml, hr, hown', hts, hlocks, hK, ⟨hE, hA, hcc, hcs⟩, hKs⟩ := id Cc
  rw [hown] at hown'
  exact vk_getf hx hb (hKs.2.2.1.1.1 w hw).2.2.1 hS hown' (hts _ hL) (fun _ h => h) hd (kk Cc r ho ls H locs hl hP hS)
theorem s_getTC {own : String} {idx w : Nat} (hown : μ.1.cls = own) (hw : w < 3) (hL : Cond.fieldLink own idx "java/lang/String" "coder" "B" ∈ tT) (hd : decode μ.2.1 pc = .ok (.getfield idx, 3)) (kk : Sim Q Γ Ξ E μ σ (pc + 3) lv (.int 0 :: st) o) : Sim Q Γ Ξ E μ σ pc lv (rV E (130 + w) :: st) o := by
  intro Cc r ho ls H locs hl hP hS
  obtain ⟨hx, hb, hml, hr, hown', hts, hlocks, hK, ⟨hE, hA, hcc, hcs⟩, hKs⟩ := id Cc
  rw [hown] at hown'
  exact vk_getf hx hb (hKs.2.2.1.1.1 w hw).2.1 hS hown' (hts _ hL) (fun _ h => h) hd (kk Cc r ho ls H locs hl hP hS)
theorem s_lenT {w : Nat} (hw : w < 3) (hd : decode μ.2.1 pc = .ok (.arraylength, 1)) (kk : Sim Q Γ Ξ E μ σ (pc + 1) lv (.int (nI (jsLen.getD w 0)) :: st) o) : Sim Q Γ Ξ E μ σ pc lv (rV E (140 + w) :: st) o := by
  intro Cc r ho ls H locs hl hP hS
  obtain ⟨hx, hb, hml, hr', hown', hts, hlocks, hK, ⟨hE, hA, hcc, hcs⟩, hKs⟩ := id Cc
  exact va_tlen hx hb (hKs.2.2.1.1.1 w hw).2.2.2 hS rfl hd (kk Cc r ho ls H locs hl hP hS)
theorem s_ldT {w : Nat} {i : Int32} (hw : w < 3) (hd : decode μ.2.1 pc = .ok (.baload, 1)) (kk : Sim Q Γ Ξ E μ σ (pc + 1) lv (.int ((jsByt.getD w []).getD i.toNatClampNeg 0) :: st) o) : Sim Q Γ Ξ E μ σ pc lv (.int i :: rV E (140 + w) :: st) (ck i (jsLen.getD w 0) o) := by
  intro Cc r ho ls H locs hl hP hS
  obtain ⟨hi, ho2⟩ := ck_in ho
  obtain ⟨hx, hb, hml, hr', hown', hts, hlocks, hK, ⟨hE, hA, hcc, hcs⟩, hKs⟩ := id Cc
  exact va_tb hx hb (hKs.2.2.1.1.1 w hw).2.2.2 hS hi rfl hd (kk Cc r ho2 ls H locs hl hP hS)
theorem s_getCS {own : String} {idx : Nat} (hown : μ.1.cls = own) (hL : Cond.fieldLink own idx "java/lang/String" "COMPACT_STRINGS" "Z" ∈ tT) (hd : decode μ.2.1 pc = .ok (.getstatic idx, 3)) (kk : Sim Q Γ Ξ E μ σ (pc + 3) lv (.int 1 :: st) o) : Sim Q Γ Ξ E μ σ pc lv st o := by
  intro Cc r ho ls H locs hl hP hS
  obtain ⟨hx, hb, hml, hr', hown', hts, hlocks, hK, ⟨hE, hA, hcc, hcs⟩, hKs⟩ := id Cc
  rw [hown] at hown'
  exact va_gets hx hb hKs.2.2.2.1 hS hown' (hts _ hL) (fun _ h => h) hd (kk Cc r ho ls H locs hl hP hS)
theorem s_getFM {own : String} {idx : Nat} (hown : μ.1.cls = own) (hL : Cond.fieldLink own idx "jdk/internal/util/Preconditions" "SIOOBE_FORMATTER" "Ljava/util/function/BiFunction;" ∈ tT) (hd : decode μ.2.1 pc = .ok (.getstatic idx, 3)) (kk : ∀ q : Option Nat, Sim Q Γ Ξ E μ σ (pc + 3) lv (va_rf q :: st) o) : Sim Q Γ Ξ E μ σ pc lv st o := by
  intro Cc r ho ls H locs hl hP hS
  obtain ⟨hx, hb, hml, hr', hown', hts, hlocks, hK, ⟨hE, hA, hcc, hcs⟩, hKs⟩ := id Cc
  rw [hown] at hown'
  rcases hKs.2.2.2.2 with h | ⟨t, h⟩
  · exact va_gets hx hb h hS hown' (hts _ hL) (fun _ h => h) hd (kk none Cc r ho ls H locs hl hP hS)
  · exact va_gets hx hb h hS hown' (hts _ hL) (fun _ h => h) hd (kk (some t) Cc r ho ls H locs hl hP hS)
theorem s_callTpI {μ' : Md} {np idx w : Nat} {As rest : List Value} {f : Option Int32} {K : Int32 → Option ρ} (hM : MF μ' np) (hV : VF μ') (hL : Cond.methodLink μ.1.cls idx μ'.1 ∈ tT) (hcl : μ'.1.cls = "java/lang/String") (hw : w < 3) (hC : Ctr Γ.2.1 enI (fun _ => σ) E μ' (rV E (130 + w) :: As) σ f) (hn : As.length = np) (hst : st = As.reverse ++ rV E (130 + w) :: rest) (hW : (rest.map fun v => v.category).sum ≤ 8) (hR : rOk μ.2.2.2.2 μ'.2.2.2.2 μ'.2.2.1 = true) (hd : decode μ.2.1 pc = .ok (.invokevirtual idx, 3))
    (kk : ∀ r, Sim Q Γ Ξ E μ σ (pc + 3) lv (.int r :: rest) (K r)) : Sim Q Γ Ξ E μ σ pc lv st (calP f K) := by
  intro Cc r ho ls H locs hl hP hS
  obtain ⟨r1, hf, ho2⟩ := calP_in ho
  obtain ⟨hx, hb, hml, hr', hown', hts, hlocks, hK, ⟨hE, hA, hcc, hcs⟩, hKs⟩ := id Cc
  have hcw : CallW μ.2.2.2.2 Γ.2.2.2.1 Γ.2.2.2.2.2.1 μ.1.cls μ'.1.cls idx μ'.1 μ'.2.1 μ'.2.2.1 μ'.2.2.2.1 (.code μ'.1 μ'.2.1 μ'.2.2.1 μ'.2.2.2.1 :: tT) μ'.2.2.2.2 0 0 np :=
    ⟨callB_of np hts (ctr_words hM) rfl hM.2.2.2.2.2.1 hM.2.2.2.2.2.2 (hts _ hM.2.2.2.2.1) (hts _ hL) ⟨hM.1, hM.2.1, hM.2.2.1⟩ (rOk_1 hR), hts _ hV.1, hts _ hV.2⟩
  have hrec := vk_recv hKs.2.2.1.1 hw hS
  rw [← hcl] at hrec
  exact sv_call (va_runV (As := As) (rest := rest) (b := E.2.2.1 (130 + w)) ⟨hx, hb, hml, hown', hts⟩ (hC hE r1 hf) hcw ⟨PcE_blind E _ σ, hrec, fun U hU hW => ⟨rfl, by rw [hU]; exact hP, va_K.moved hW.alike hK, by rw [hU]; exact ((Kt.kept hS.2.1 hKs).warm hW).narrow hA⟩⟩ rfl hn hl.1 hst (lv_room hW) hd ⟨hcc, hcs⟩) hS hA (fun H1 locs1 hP1 _ _ hS1 => kk r1 Cc r ho2 ls H1 locs1 hl hP1 hS1)
end ROWS2
theorem nl_of {w : Cond} (i : Nat) (h : nestW[i]? = some w) : w ∈ nestW := List.mem_of_getElem? h
end
section
theorem dX3_places_0 : decode cX3_places 0 = .ok (.aload_n 0, 1) := by decide +kernel
theorem dX3_places_1 : decode cX3_places 1 = .ok (.getfield 31, 3) := by decide +kernel
theorem dX3_places_4 : decode cX3_places 4 = .ok (.ireturn, 1) := by decide +kernel
def f_X3_places (σ : St) : Option Int32 :=
  some (σ.1 1 0)
set_option maxHeartbeats 4000000 in
set_option maxRecDepth 100000 in
theorem c_X3_places (l : Launch) (E : Ev) (hF : Full E) (σ : St) : Ctr l enI (fun _ => σ) E md_X3_places [rV E 1] σ (f_X3_places σ) := by
  refine ctr_of rfl (Nat.le_of_ble_eq_true rfl) (fun Γ => ?_)
  show Sim _ Γ _ E md_X3_places σ 0 [(0, rV E 1)] [] _
  unfold f_X3_places
  refine s_aload_n dX3_places_0 0 rfl rfl ?_
  refine s_geti gf_X3_31 rfl (m1 hF) k1 (ft_of k1 rfl) dX3_places_1 ?_
  exact s_ireturn rfl rfl rfl dX3_places_4
theorem dX3_changes_0 : decode cX3_changes 0 = .ok (.aload_n 0, 1) := by decide +kernel
theorem dX3_changes_1 : decode cX3_changes 1 = .ok (.getfield 35, 3) := by decide +kernel
theorem dX3_changes_4 : decode cX3_changes 4 = .ok (.ireturn, 1) := by decide +kernel
def f_X3_changes (σ : St) : Option Int32 :=
  some (σ.1 1 1)
set_option maxHeartbeats 4000000 in
set_option maxRecDepth 100000 in
theorem c_X3_changes (l : Launch) (E : Ev) (hF : Full E) (σ : St) : Ctr l enI (fun _ => σ) E md_X3_changes [rV E 1] σ (f_X3_changes σ) := by
  refine ctr_of rfl (Nat.le_of_ble_eq_true rfl) (fun Γ => ?_)
  show Sim _ Γ _ E md_X3_changes σ 0 [(0, rV E 1)] [] _
  unfold f_X3_changes
  refine s_aload_n dX3_changes_0 0 rfl rfl ?_
  refine s_geti gf_X3_35 rfl (m1 hF) k1 (ft_of k1 rfl) dX3_changes_1 ?_
  exact s_ireturn rfl rfl rfl dX3_changes_4
theorem dX3_all_0 : decode cX3_all 0 = .ok (.iconst 1, 1) := by decide +kernel
theorem dX3_all_1 : decode cX3_all 1 = .ok (.aload_n 0, 1) := by decide +kernel
theorem dX3_all_2 : decode cX3_all 2 = .ok (.getfield 31, 3) := by decide +kernel
theorem dX3_all_5 : decode cX3_all 5 = .ok (.ishl, 1) := by decide +kernel
theorem dX3_all_6 : decode cX3_all 6 = .ok (.iconst 1, 1) := by decide +kernel
theorem dX3_all_7 : decode cX3_all 7 = .ok (.isub, 1) := by decide +kernel
theorem dX3_all_8 : decode cX3_all 8 = .ok (.ireturn, 1) := by decide +kernel
def f_X3_all (σ : St) : Option Int32 :=
  some (((1 : Int32) <<< ((σ.1 1 0) &&& 31)) - (1 : Int32))
set_option maxHeartbeats 4000000 in
set_option maxRecDepth 100000 in
theorem c_X3_all (l : Launch) (E : Ev) (hF : Full E) (σ : St) : Ctr l enI (fun _ => σ) E md_X3_all [rV E 1] σ (f_X3_all σ) := by
  refine ctr_of rfl (Nat.le_of_ble_eq_true rfl) (fun Γ => ?_)
  show Sim _ Γ _ E md_X3_all σ 0 [(0, rV E 1)] [] _
  unfold f_X3_all
  refine s_iconst (v := 1) dX3_all_0 (by decide) ?_
  refine s_aload_n dX3_all_1 0 rfl rfl ?_
  refine s_geti gf_X3_31 rfl (m1 hF) k1 (ft_of k1 rfl) dX3_all_2 ?_
  refine s_ishl dX3_all_5 ?_
  refine s_iconst (v := 1) dX3_all_6 (by decide) ?_
  refine s_isub dX3_all_7 ?_
  exact s_ireturn rfl rfl rfl dX3_all_8
theorem dX3_known_0 : decode cX3_known 0 = .ok (.iload_n 1, 1) := by decide +kernel
theorem dX3_known_1 : decode cX3_known 1 = .ok (.ifCond .lt 15, 3) := by decide +kernel
theorem dX3_known_4 : decode cX3_known 4 = .ok (.iload_n 1, 1) := by decide +kernel
theorem dX3_known_5 : decode cX3_known 5 = .ok (.aload_n 0, 1) := by decide +kernel
theorem dX3_known_6 : decode cX3_known 6 = .ok (.getfield 31, 3) := by decide +kernel
theorem dX3_known_9 : decode cX3_known 9 = .ok (.if_icmp .ge 7, 3) := by decide +kernel
theorem dX3_known_12 : decode cX3_known 12 = .ok (.iconst 1, 1) := by decide +kernel
theorem dX3_known_13 : decode cX3_known 13 = .ok (.goto 4, 3) := by decide +kernel
theorem dX3_known_16 : decode cX3_known 16 = .ok (.iconst 0, 1) := by decide +kernel
theorem dX3_known_17 : decode cX3_known 17 = .ok (.ireturn, 1) := by decide +kernel
def f_X3_known (σ : St) (v1 : Int32) : Option Int32 :=
  (if v1 < 0 then
    some (0 : Int32)
     else
    (if v1 < (σ.1 1 0) then
      some (1 : Int32)
       else
      some (0 : Int32)))
set_option maxHeartbeats 4000000 in
set_option maxRecDepth 100000 in
theorem c_X3_known (l : Launch) (E : Ev) (hF : Full E) (σ : St) (v1 : Int32) : Ctr l enI (fun _ => σ) E md_X3_known [rV E 1, .int v1] σ (f_X3_known σ v1) := by
  refine ctr_of rfl (Nat.le_of_ble_eq_true rfl) (fun Γ => ?_)
  show Sim _ Γ _ E md_X3_known σ 0 [(0, rV E 1), (1, .int v1)] [] _
  unfold f_X3_known
  refine s_iload_n dX3_known_0 1 rfl rfl ?_
  refine s_if_lt 16 dX3_known_1 (by decide) ?_ ?_
  · skip
    refine s_iconst (v := 0) dX3_known_16 (by decide) ?_
    exact s_zreturn rfl (by decide) rfl rfl dX3_known_17
  · skip
    refine s_iload_n dX3_known_4 1 rfl rfl ?_
    refine s_aload_n dX3_known_5 0 rfl rfl ?_
    refine s_geti gf_X3_31 rfl (m1 hF) k1 (ft_of k1 rfl) dX3_known_6 ?_
    refine s_icmp_ge 16 dX3_known_9 (by decide) ?_ ?_
    · skip
      refine s_iconst (v := 1) dX3_known_12 (by decide) ?_
      refine s_goto 17 dX3_known_13 (by decide) ?_
      exact s_zreturn rfl (by decide) rfl rfl dX3_known_17
    · skip
      refine s_iconst (v := 0) dX3_known_16 (by decide) ?_
      exact s_zreturn rfl (by decide) rfl rfl dX3_known_17
theorem dX3_holdsAll_0 : decode cX3_holdsAll 0 = .ok (.iload_n 1, 1) := by decide +kernel
theorem dX3_holdsAll_1 : decode cX3_holdsAll 1 = .ok (.aload_n 0, 1) := by decide +kernel
theorem dX3_holdsAll_2 : decode cX3_holdsAll 2 = .ok (.invokevirtual 38, 3) := by decide +kernel
theorem dX3_holdsAll_5 : decode cX3_holdsAll 5 = .ok (.iconst (-1), 1) := by decide +kernel
theorem dX3_holdsAll_6 : decode cX3_holdsAll 6 = .ok (.ixor, 1) := by decide +kernel
theorem dX3_holdsAll_7 : decode cX3_holdsAll 7 = .ok (.iand, 1) := by decide +kernel
theorem dX3_holdsAll_8 : decode cX3_holdsAll 8 = .ok (.ifCond .ne 7, 3) := by decide +kernel
theorem dX3_holdsAll_11 : decode cX3_holdsAll 11 = .ok (.iconst 1, 1) := by decide +kernel
theorem dX3_holdsAll_12 : decode cX3_holdsAll 12 = .ok (.goto 4, 3) := by decide +kernel
theorem dX3_holdsAll_15 : decode cX3_holdsAll 15 = .ok (.iconst 0, 1) := by decide +kernel
theorem dX3_holdsAll_16 : decode cX3_holdsAll 16 = .ok (.ireturn, 1) := by decide +kernel
def f_X3_holdsAll (σ : St) (v1 : Int32) : Option Int32 :=
  calP (f_X3_all σ) fun r1 =>
    (if (v1 &&& (r1 ^^^ (-1 : Int32))) = 0 then
      some (1 : Int32)
       else
      some (0 : Int32))
set_option maxHeartbeats 4000000 in
set_option maxRecDepth 100000 in
theorem c_X3_holdsAll (l : Launch) (E : Ev) (hF : Full E) (σ : St) (v1 : Int32) : Ctr l enI (fun _ => σ) E md_X3_holdsAll [rV E 1, .int v1] σ (f_X3_holdsAll σ v1) := by
  refine ctr_of rfl (Nat.le_of_ble_eq_true rfl) (fun Γ => ?_)
  show Sim _ Γ _ E md_X3_holdsAll σ 0 [(0, rV E 1), (1, .int v1)] [] _
  unfold f_X3_holdsAll
  refine s_iload_n dX3_holdsAll_0 1 rfl rfl ?_
  refine s_aload_n dX3_holdsAll_1 0 rfl rfl ?_
  refine s_callVpI (As := []) mf_X3_all vf_X3_all ml_X3_38 (c_X3_all _ E hF σ) (m1 hF) k1 (by decide) rfl rfl rfl rfl (Nat.le_of_ble_eq_true rfl) rfl dX3_holdsAll_2 (fun r1 => ?_)
  refine s_iconst (v := -1) dX3_holdsAll_5 (by decide) ?_
  refine s_ixor dX3_holdsAll_6 ?_
  refine s_iand dX3_holdsAll_7 ?_
  refine s_if_ne 15 dX3_holdsAll_8 (by decide) ?_ ?_
  · skip
    refine s_iconst (v := 1) dX3_holdsAll_11 (by decide) ?_
    refine s_goto 16 dX3_holdsAll_12 (by decide) ?_
    exact s_zreturn rfl (by decide) rfl rfl dX3_holdsAll_16
  · skip
    refine s_iconst (v := 0) dX3_holdsAll_15 (by decide) ?_
    exact s_zreturn rfl (by decide) rfl rfl dX3_holdsAll_16
theorem dX3_reset_0 : decode cX3_reset 0 = .ok (.aload_n 0, 1) := by decide +kernel
theorem dX3_reset_1 : decode cX3_reset 1 = .ok (.iload_n 1, 1) := by decide +kernel
theorem dX3_reset_2 : decode cX3_reset 2 = .ok (.putfield 31, 3) := by decide +kernel
theorem dX3_reset_5 : decode cX3_reset 5 = .ok (.iconst 0, 1) := by decide +kernel
theorem dX3_reset_6 : decode cX3_reset 6 = .ok (.istore_n 2, 1) := by decide +kernel
theorem dX3_reset_7 : decode cX3_reset 7 = .ok (.iload_n 2, 1) := by decide +kernel
theorem dX3_reset_8 : decode cX3_reset 8 = .ok (.bipush 8, 2) := by decide +kernel
theorem dX3_reset_10 : decode cX3_reset 10 = .ok (.if_icmp .ge 39, 3) := by decide +kernel
theorem dX3_reset_13 : decode cX3_reset 13 = .ok (.aload_n 0, 1) := by decide +kernel
theorem dX3_reset_14 : decode cX3_reset 14 = .ok (.getfield 9, 3) := by decide +kernel
theorem dX3_reset_17 : decode cX3_reset 17 = .ok (.iload_n 2, 1) := by decide +kernel
theorem dX3_reset_18 : decode cX3_reset 18 = .ok (.iload_n 2, 1) := by decide +kernel
theorem dX3_reset_19 : decode cX3_reset 19 = .ok (.iload_n 1, 1) := by decide +kernel
theorem dX3_reset_20 : decode cX3_reset 20 = .ok (.if_icmp .ge 9, 3) := by decide +kernel
theorem dX3_reset_23 : decode cX3_reset 23 = .ok (.iconst 1, 1) := by decide +kernel
theorem dX3_reset_24 : decode cX3_reset 24 = .ok (.iload_n 2, 1) := by decide +kernel
theorem dX3_reset_25 : decode cX3_reset 25 = .ok (.ishl, 1) := by decide +kernel
theorem dX3_reset_26 : decode cX3_reset 26 = .ok (.goto 4, 3) := by decide +kernel
theorem dX3_reset_29 : decode cX3_reset 29 = .ok (.iconst 0, 1) := by decide +kernel
theorem dX3_reset_30 : decode cX3_reset 30 = .ok (.iastore, 1) := by decide +kernel
theorem dX3_reset_31 : decode cX3_reset 31 = .ok (.aload_n 0, 1) := by decide +kernel
theorem dX3_reset_32 : decode cX3_reset 32 = .ok (.getfield 15, 3) := by decide +kernel
theorem dX3_reset_35 : decode cX3_reset 35 = .ok (.iload_n 2, 1) := by decide +kernel
theorem dX3_reset_36 : decode cX3_reset 36 = .ok (.aload_n 0, 1) := by decide +kernel
theorem dX3_reset_37 : decode cX3_reset 37 = .ok (.getfield 9, 3) := by decide +kernel
theorem dX3_reset_40 : decode cX3_reset 40 = .ok (.iload_n 2, 1) := by decide +kernel
theorem dX3_reset_41 : decode cX3_reset 41 = .ok (.iaload, 1) := by decide +kernel
theorem dX3_reset_42 : decode cX3_reset 42 = .ok (.iastore, 1) := by decide +kernel
theorem dX3_reset_43 : decode cX3_reset 43 = .ok (.iinc 2 1, 3) := by decide +kernel
theorem dX3_reset_46 : decode cX3_reset 46 = .ok (.goto (-39), 3) := by decide +kernel
theorem dX3_reset_49 : decode cX3_reset 49 = .ok (.return_, 1) := by decide +kernel
def f_X3_reset (σ : St) (v1 : Int32) : Option (Unit × St) :=
  bd (setI σ 1 0 v1) fun s1 =>
    lo2 FU (fun rec4 (s2 : St) (x3 : Int32) =>
      (if x3 < (8 : Int32) then
        bd (if x3 < v1 then ((1 : Int32) <<< (x3 &&& 31)) else (0 : Int32)) fun x6 =>
          ck x3 8 <|
            bd (setI s2 2 x3.toNatClampNeg x6) fun s8 =>
              ck x3 8 <|
                ck x3 8 <|
                  bd (setI s8 3 x3.toNatClampNeg (s8.1 2 x3.toNatClampNeg)) fun s9 =>
                    rec4 s9 (x3 + 1)
         else
        some ((), s2))) s1 (0 : Int32)
set_option maxHeartbeats 4000000 in
set_option maxRecDepth 100000 in
theorem c_X3_reset (l : Launch) (E : Ev) (hF : Full E) (σ : St) (v1 : Int32) : Ctr l (en2 enV) (fun q => q.2) E md_X3_reset [rV E 1, .int v1] σ (f_X3_reset σ v1) := by
  refine ctr_of rfl (Nat.le_of_ble_eq_true rfl) (fun Γ => ?_)
  show Sim _ Γ _ E md_X3_reset σ 0 [(0, rV E 1), (1, .int v1)] [] _
  unfold f_X3_reset
  refine s_aload_n dX3_reset_0 0 rfl rfl ?_
  refine s_iload_n dX3_reset_1 1 rfl rfl ?_
  refine s_puti gf_X3_31 rfl (m1 hF) k1 (ft_of k1 rfl) dX3_reset_2 (fun s1 => ?_)
  refine s_iconst (v := 0) dX3_reset_5 (by decide) ?_
  refine s_istore_n [(2, .int (0 : Int32)), (0, rV E 1), (1, .int v1)] dX3_reset_6 rfl (by decide) rfl ?_
  refine s_sub (lv' := [(0, rV E 1), (1, .int v1), (2, .int (0 : Int32))]) [1, 2, 0] rfl ?_
  refine s_lo2 (σf := fun s2 x3 => s2) (lvf := fun s2 x3 => [(0, rV E 1), (1, .int v1), (2, .int x3)]) (fun rec4 ih5 s2 x3 => ?_)
  refine s_iload_n dX3_reset_7 2 rfl rfl ?_
  refine s_bipush (v := 8) dX3_reset_8 (by decide) ?_
  refine s_icmp_ge 49 dX3_reset_10 (by decide) ?_ ?_
  · skip
    refine s_aload_n dX3_reset_13 0 rfl rfl ?_
    refine s_getr (b := 2) gf_X3_9 rfl (m1 hF) k1 (ft_of k1 rfl) (hF.2 _ _) rfl dX3_reset_14 ?_
    refine s_iload_n dX3_reset_17 2 rfl rfl ?_
    refine s_iload_n dX3_reset_18 2 rfl rfl ?_
    refine s_iload_n dX3_reset_19 1 rfl rfl ?_
    refine s_bd 30 (fun x6 => [(0, rV E 1), (1, .int v1), (2, .int x3)]) (fun x6 => [.int x6, .int x3, rV E 2]) (fun jk7 => (if x3 < v1 then jk7 ((1 : Int32) <<< (x3 &&& 31)) else jk7 (0 : Int32))) (fun jk7 => (j_ite rfl rfl)) ?_ ?_
    · intro x6
      refine s_iast (m2 hF) k2 l2 dX3_reset_30 (fun s8 => ?_)
      refine s_aload_n dX3_reset_31 0 rfl rfl ?_
      refine s_getr (b := 3) gf_X3_15 rfl (m1 hF) k1 (ft_of k1 rfl) (hF.2 _ _) rfl dX3_reset_32 ?_
      refine s_iload_n dX3_reset_35 2 rfl rfl ?_
      refine s_aload_n dX3_reset_36 0 rfl rfl ?_
      refine s_getr (b := 2) gf_X3_9 rfl (m1 hF) k1 (ft_of k1 rfl) (hF.2 _ _) rfl dX3_reset_37 ?_
      refine s_iload_n dX3_reset_40 2 rfl rfl ?_
      refine s_iald (m2 hF) k2 l2 dX3_reset_41 ?_
      refine s_iast (m3 hF) k3 l3 dX3_reset_42 (fun s9 => ?_)
      refine s_iinc [(2, .int (x3 + 1)), (0, rV E 1), (1, .int v1)] dX3_reset_43 2 rfl rfl (by decide) rfl ?_
      refine s_goto 7 dX3_reset_46 (by decide) ?_
      refine s_sub [1, 2, 0] rfl ?_
      exact ih5 s9 (x3 + 1)
    · intro jk7 hjk7
      refine s_icmp_ge 29 dX3_reset_20 (by decide) ?_ ?_
      · skip
        refine s_iconst (v := 1) dX3_reset_23 (by decide) ?_
        refine s_iload_n dX3_reset_24 2 rfl rfl ?_
        refine s_ishl dX3_reset_25 ?_
        refine s_goto 30 dX3_reset_26 (by decide) ?_
        exact hjk7 ((1 : Int32) <<< (x3 &&& 31))
      · skip
        refine s_iconst (v := 0) dX3_reset_29 (by decide) ?_
        exact hjk7 (0 : Int32)
  · skip
    exact s_return rfl rfl rfl dX3_reset_49
theorem dX3_set_0 : decode cX3_set 0 = .ok (.aload_n 0, 1) := by decide +kernel
theorem dX3_set_1 : decode cX3_set 1 = .ok (.iload_n 1, 1) := by decide +kernel
theorem dX3_set_2 : decode cX3_set 2 = .ok (.invokevirtual 42, 3) := by decide +kernel
theorem dX3_set_5 : decode cX3_set 5 = .ok (.ifCond .eq 16, 3) := by decide +kernel
theorem dX3_set_8 : decode cX3_set 8 = .ok (.aload_n 0, 1) := by decide +kernel
theorem dX3_set_9 : decode cX3_set 9 = .ok (.iload_n 2, 1) := by decide +kernel
theorem dX3_set_10 : decode cX3_set 10 = .ok (.invokevirtual 42, 3) := by decide +kernel
theorem dX3_set_13 : decode cX3_set 13 = .ok (.ifCond .eq 8, 3) := by decide +kernel
theorem dX3_set_16 : decode cX3_set 16 = .ok (.iload_n 1, 1) := by decide +kernel
theorem dX3_set_17 : decode cX3_set 17 = .ok (.iload_n 2, 1) := by decide +kernel
theorem dX3_set_18 : decode cX3_set 18 = .ok (.if_icmp .ne 4, 3) := by decide +kernel
theorem dX3_set_21 : decode cX3_set 21 = .ok (.return_, 1) := by decide +kernel
theorem dX3_set_22 : decode cX3_set 22 = .ok (.iload_n 3, 1) := by decide +kernel
theorem dX3_set_23 : decode cX3_set 23 = .ok (.ifCond .eq 30, 3) := by decide +kernel
theorem dX3_set_26 : decode cX3_set 26 = .ok (.aload_n 0, 1) := by decide +kernel
theorem dX3_set_27 : decode cX3_set 27 = .ok (.getfield 9, 3) := by decide +kernel
theorem dX3_set_30 : decode cX3_set 30 = .ok (.iload_n 1, 1) := by decide +kernel
theorem dX3_set_31 : decode cX3_set 31 = .ok (.dup2, 1) := by decide +kernel
theorem dX3_set_32 : decode cX3_set 32 = .ok (.iaload, 1) := by decide +kernel
theorem dX3_set_33 : decode cX3_set 33 = .ok (.iconst 1, 1) := by decide +kernel
theorem dX3_set_34 : decode cX3_set 34 = .ok (.iload_n 2, 1) := by decide +kernel
theorem dX3_set_35 : decode cX3_set 35 = .ok (.ishl, 1) := by decide +kernel
theorem dX3_set_36 : decode cX3_set 36 = .ok (.ior, 1) := by decide +kernel
theorem dX3_set_37 : decode cX3_set 37 = .ok (.iastore, 1) := by decide +kernel
theorem dX3_set_38 : decode cX3_set 38 = .ok (.aload_n 0, 1) := by decide +kernel
theorem dX3_set_39 : decode cX3_set 39 = .ok (.getfield 15, 3) := by decide +kernel
theorem dX3_set_42 : decode cX3_set 42 = .ok (.iload_n 2, 1) := by decide +kernel
theorem dX3_set_43 : decode cX3_set 43 = .ok (.dup2, 1) := by decide +kernel
theorem dX3_set_44 : decode cX3_set 44 = .ok (.iaload, 1) := by decide +kernel
theorem dX3_set_45 : decode cX3_set 45 = .ok (.iconst 1, 1) := by decide +kernel
theorem dX3_set_46 : decode cX3_set 46 = .ok (.iload_n 1, 1) := by decide +kernel
theorem dX3_set_47 : decode cX3_set 47 = .ok (.ishl, 1) := by decide +kernel
theorem dX3_set_48 : decode cX3_set 48 = .ok (.ior, 1) := by decide +kernel
theorem dX3_set_49 : decode cX3_set 49 = .ok (.iastore, 1) := by decide +kernel
theorem dX3_set_50 : decode cX3_set 50 = .ok (.goto 31, 3) := by decide +kernel
theorem dX3_set_53 : decode cX3_set 53 = .ok (.aload_n 0, 1) := by decide +kernel
theorem dX3_set_54 : decode cX3_set 54 = .ok (.getfield 9, 3) := by decide +kernel
theorem dX3_set_57 : decode cX3_set 57 = .ok (.iload_n 1, 1) := by decide +kernel
theorem dX3_set_58 : decode cX3_set 58 = .ok (.dup2, 1) := by decide +kernel
theorem dX3_set_59 : decode cX3_set 59 = .ok (.iaload, 1) := by decide +kernel
theorem dX3_set_60 : decode cX3_set 60 = .ok (.iconst 1, 1) := by decide +kernel
theorem dX3_set_61 : decode cX3_set 61 = .ok (.iload_n 2, 1) := by decide +kernel
theorem dX3_set_62 : decode cX3_set 62 = .ok (.ishl, 1) := by decide +kernel
theorem dX3_set_63 : decode cX3_set 63 = .ok (.iconst (-1), 1) := by decide +kernel
theorem dX3_set_64 : decode cX3_set 64 = .ok (.ixor, 1) := by decide +kernel
theorem dX3_set_65 : decode cX3_set 65 = .ok (.iand, 1) := by decide +kernel
theorem dX3_set_66 : decode cX3_set 66 = .ok (.iastore, 1) := by decide +kernel
theorem dX3_set_67 : decode cX3_set 67 = .ok (.aload_n 0, 1) := by decide +kernel
theorem dX3_set_68 : decode cX3_set 68 = .ok (.getfield 15, 3) := by decide +kernel
theorem dX3_set_71 : decode cX3_set 71 = .ok (.iload_n 2, 1) := by decide +kernel
theorem dX3_set_72 : decode cX3_set 72 = .ok (.dup2, 1) := by decide +kernel
theorem dX3_set_73 : decode cX3_set 73 = .ok (.iaload, 1) := by decide +kernel
theorem dX3_set_74 : decode cX3_set 74 = .ok (.iconst 1, 1) := by decide +kernel
theorem dX3_set_75 : decode cX3_set 75 = .ok (.iload_n 1, 1) := by decide +kernel
theorem dX3_set_76 : decode cX3_set 76 = .ok (.ishl, 1) := by decide +kernel
theorem dX3_set_77 : decode cX3_set 77 = .ok (.iconst (-1), 1) := by decide +kernel
theorem dX3_set_78 : decode cX3_set 78 = .ok (.ixor, 1) := by decide +kernel
theorem dX3_set_79 : decode cX3_set 79 = .ok (.iand, 1) := by decide +kernel
theorem dX3_set_80 : decode cX3_set 80 = .ok (.iastore, 1) := by decide +kernel
theorem dX3_set_81 : decode cX3_set 81 = .ok (.return_, 1) := by decide +kernel
def f_X3_set (σ : St) (v1 : Int32) (v2 : Int32) (v3 : Int32) : Option (Unit × St) :=
  calP (f_X3_known σ v1) fun r1 =>
    (if r1 = 0 then
      some ((), σ)
       else
      calP (f_X3_known σ v2) fun r2 =>
        (if r2 = 0 then
          some ((), σ)
           else
          (if v1 = v2 then
            some ((), σ)
             else
            (if v3 = 0 then
              ck v1 8 <|
                ck v1 8 <|
                  bd (setI σ 2 v1.toNatClampNeg ((σ.1 2 v1.toNatClampNeg) &&& (((1 : Int32) <<< (v2 &&& 31)) ^^^ (-1 : Int32)))) fun s3 =>
                    ck v2 8 <|
                      ck v2 8 <|
                        bd (setI s3 3 v2.toNatClampNeg ((s3.1 3 v2.toNatClampNeg) &&& (((1 : Int32) <<< (v1 &&& 31)) ^^^ (-1 : Int32)))) fun s4 =>
                          some ((), s4)
               else
              ck v1 8 <|
                ck v1 8 <|
                  bd (setI σ 2 v1.toNatClampNeg ((σ.1 2 v1.toNatClampNeg) ||| ((1 : Int32) <<< (v2 &&& 31)))) fun s5 =>
                    ck v2 8 <|
                      ck v2 8 <|
                        bd (setI s5 3 v2.toNatClampNeg ((s5.1 3 v2.toNatClampNeg) ||| ((1 : Int32) <<< (v1 &&& 31)))) fun s6 =>
                          some ((), s6)))))
set_option maxHeartbeats 4000000 in
set_option maxRecDepth 100000 in
theorem c_X3_set (l : Launch) (E : Ev) (hF : Full E) (σ : St) (v1 : Int32) (v2 : Int32) (v3 : Int32) : Ctr l (en2 enV) (fun q => q.2) E md_X3_set [rV E 1, .int v1, .int v2, .int v3] σ (f_X3_set σ v1 v2 v3) := by
  refine ctr_of rfl (Nat.le_of_ble_eq_true rfl) (fun Γ => ?_)
  show Sim _ Γ _ E md_X3_set σ 0 [(0, rV E 1), (1, .int v1), (2, .int v2), (3, .int v3)] [] _
  unfold f_X3_set
  refine s_aload_n dX3_set_0 0 rfl rfl ?_
  refine s_iload_n dX3_set_1 1 rfl rfl ?_
  refine s_callVpI (As := [.int v1]) mf_X3_known vf_X3_known ml_X3_42 (c_X3_known _ E hF σ v1) (m1 hF) k1 (by decide) rfl rfl rfl rfl (Nat.le_of_ble_eq_true rfl) rfl dX3_set_2 (fun r1 => ?_)
  refine s_if_eq 21 dX3_set_5 (by decide) ?_ ?_
  · skip
    exact s_return rfl rfl rfl dX3_set_21
  · skip
    refine s_aload_n dX3_set_8 0 rfl rfl ?_
    refine s_iload_n dX3_set_9 2 rfl rfl ?_
    refine s_callVpI (As := [.int v2]) mf_X3_known vf_X3_known ml_X3_42 (c_X3_known _ E hF σ v2) (m1 hF) k1 (by decide) rfl rfl rfl rfl (Nat.le_of_ble_eq_true rfl) rfl dX3_set_10 (fun r2 => ?_)
    refine s_if_eq 21 dX3_set_13 (by decide) ?_ ?_
    · skip
      exact s_return rfl rfl rfl dX3_set_21
    · skip
      refine s_iload_n dX3_set_16 1 rfl rfl ?_
      refine s_iload_n dX3_set_17 2 rfl rfl ?_
      refine s_icmp_ne 22 dX3_set_18 (by decide) ?_ ?_
      · skip
        exact s_return rfl rfl rfl dX3_set_21
      · skip
        refine s_iload_n dX3_set_22 3 rfl rfl ?_
        refine s_if_eq 53 dX3_set_23 (by decide) ?_ ?_
        · skip
          refine s_aload_n dX3_set_53 0 rfl rfl ?_
          refine s_getr (b := 2) gf_X3_9 rfl (m1 hF) k1 (ft_of k1 rfl) (hF.2 _ _) rfl dX3_set_54 ?_
          refine s_iload_n dX3_set_57 1 rfl rfl ?_
          refine s_dup2 dX3_set_58 rfl rfl ?_
          refine s_iald (m2 hF) k2 l2 dX3_set_59 ?_
          refine s_iconst (v := 1) dX3_set_60 (by decide) ?_
          refine s_iload_n dX3_set_61 2 rfl rfl ?_
          refine s_ishl dX3_set_62 ?_
          refine s_iconst (v := -1) dX3_set_63 (by decide) ?_
          refine s_ixor dX3_set_64 ?_
          refine s_iand dX3_set_65 ?_
          refine s_iast (m2 hF) k2 l2 dX3_set_66 (fun s3 => ?_)
          refine s_aload_n dX3_set_67 0 rfl rfl ?_
          refine s_getr (b := 3) gf_X3_15 rfl (m1 hF) k1 (ft_of k1 rfl) (hF.2 _ _) rfl dX3_set_68 ?_
          refine s_iload_n dX3_set_71 2 rfl rfl ?_
          refine s_dup2 dX3_set_72 rfl rfl ?_
          refine s_iald (m3 hF) k3 l3 dX3_set_73 ?_
          refine s_iconst (v := 1) dX3_set_74 (by decide) ?_
          refine s_iload_n dX3_set_75 1 rfl rfl ?_
          refine s_ishl dX3_set_76 ?_
          refine s_iconst (v := -1) dX3_set_77 (by decide) ?_
          refine s_ixor dX3_set_78 ?_
          refine s_iand dX3_set_79 ?_
          refine s_iast (m3 hF) k3 l3 dX3_set_80 (fun s4 => ?_)
          exact s_return rfl rfl rfl dX3_set_81
        · skip
          refine s_aload_n dX3_set_26 0 rfl rfl ?_
          refine s_getr (b := 2) gf_X3_9 rfl (m1 hF) k1 (ft_of k1 rfl) (hF.2 _ _) rfl dX3_set_27 ?_
          refine s_iload_n dX3_set_30 1 rfl rfl ?_
          refine s_dup2 dX3_set_31 rfl rfl ?_
          refine s_iald (m2 hF) k2 l2 dX3_set_32 ?_
          refine s_iconst (v := 1) dX3_set_33 (by decide) ?_
          refine s_iload_n dX3_set_34 2 rfl rfl ?_
          refine s_ishl dX3_set_35 ?_
          refine s_ior dX3_set_36 ?_
          refine s_iast (m2 hF) k2 l2 dX3_set_37 (fun s5 => ?_)
          refine s_aload_n dX3_set_38 0 rfl rfl ?_
          refine s_getr (b := 3) gf_X3_15 rfl (m1 hF) k1 (ft_of k1 rfl) (hF.2 _ _) rfl dX3_set_39 ?_
          refine s_iload_n dX3_set_42 2 rfl rfl ?_
          refine s_dup2 dX3_set_43 rfl rfl ?_
          refine s_iald (m3 hF) k3 l3 dX3_set_44 ?_
          refine s_iconst (v := 1) dX3_set_45 (by decide) ?_
          refine s_iload_n dX3_set_46 1 rfl rfl ?_
          refine s_ishl dX3_set_47 ?_
          refine s_ior dX3_set_48 ?_
          refine s_iast (m3 hF) k3 l3 dX3_set_49 (fun s6 => ?_)
          refine s_goto 81 dX3_set_50 (by decide) ?_
          exact s_return rfl rfl rfl dX3_set_81
theorem dX3_settle_0 : decode cX3_settle 0 = .ok (.aload_n 0, 1) := by decide +kernel
theorem dX3_settle_1 : decode cX3_settle 1 = .ok (.dup, 1) := by decide +kernel
theorem dX3_settle_2 : decode cX3_settle 2 = .ok (.getfield 35, 3) := by decide +kernel
theorem dX3_settle_5 : decode cX3_settle 5 = .ok (.iconst 1, 1) := by decide +kernel
theorem dX3_settle_6 : decode cX3_settle 6 = .ok (.iadd, 1) := by decide +kernel
theorem dX3_settle_7 : decode cX3_settle 7 = .ok (.putfield 35, 3) := by decide +kernel
theorem dX3_settle_10 : decode cX3_settle 10 = .ok (.iconst 0, 1) := by decide +kernel
theorem dX3_settle_11 : decode cX3_settle 11 = .ok (.istore_n 1, 1) := by decide +kernel
theorem dX3_settle_12 : decode cX3_settle 12 = .ok (.iload_n 1, 1) := by decide +kernel
theorem dX3_settle_13 : decode cX3_settle 13 = .ok (.bipush 8, 2) := by decide +kernel
theorem dX3_settle_15 : decode cX3_settle 15 = .ok (.if_icmp .ge 77, 3) := by decide +kernel
theorem dX3_settle_18 : decode cX3_settle 18 = .ok (.iconst 1, 1) := by decide +kernel
theorem dX3_settle_19 : decode cX3_settle 19 = .ok (.iload_n 1, 1) := by decide +kernel
theorem dX3_settle_20 : decode cX3_settle 20 = .ok (.ishl, 1) := by decide +kernel
theorem dX3_settle_21 : decode cX3_settle 21 = .ok (.istore_n 2, 1) := by decide +kernel
theorem dX3_settle_22 : decode cX3_settle 22 = .ok (.iload_n 2, 1) := by decide +kernel
theorem dX3_settle_23 : decode cX3_settle 23 = .ok (.istore_n 3, 1) := by decide +kernel
theorem dX3_settle_24 : decode cX3_settle 24 = .ok (.iload_n 3, 1) := by decide +kernel
theorem dX3_settle_25 : decode cX3_settle 25 = .ok (.iconst 2, 1) := by decide +kernel
theorem dX3_settle_26 : decode cX3_settle 26 = .ok (.iload_n 2, 1) := by decide +kernel
theorem dX3_settle_27 : decode cX3_settle 27 = .ok (.imul, 1) := by decide +kernel
theorem dX3_settle_28 : decode cX3_settle 28 = .ok (.if_icmp .ge 58, 3) := by decide +kernel
theorem dX3_settle_31 : decode cX3_settle 31 = .ok (.iload_n 3, 1) := by decide +kernel
theorem dX3_settle_32 : decode cX3_settle 32 = .ok (.sipush 256, 3) := by decide +kernel
theorem dX3_settle_35 : decode cX3_settle 35 = .ok (.if_icmp .ge 51, 3) := by decide +kernel
theorem dX3_settle_38 : decode cX3_settle 38 = .ok (.aload_n 0, 1) := by decide +kernel
theorem dX3_settle_39 : decode cX3_settle 39 = .ok (.getfield 18, 3) := by decide +kernel
theorem dX3_settle_42 : decode cX3_settle 42 = .ok (.iload_n 3, 1) := by decide +kernel
theorem dX3_settle_43 : decode cX3_settle 43 = .ok (.aload_n 0, 1) := by decide +kernel
theorem dX3_settle_44 : decode cX3_settle 44 = .ok (.getfield 18, 3) := by decide +kernel
theorem dX3_settle_47 : decode cX3_settle 47 = .ok (.iload_n 3, 1) := by decide +kernel
theorem dX3_settle_48 : decode cX3_settle 48 = .ok (.iload_n 2, 1) := by decide +kernel
theorem dX3_settle_49 : decode cX3_settle 49 = .ok (.isub, 1) := by decide +kernel
theorem dX3_settle_50 : decode cX3_settle 50 = .ok (.iaload, 1) := by decide +kernel
theorem dX3_settle_51 : decode cX3_settle 51 = .ok (.aload_n 0, 1) := by decide +kernel
theorem dX3_settle_52 : decode cX3_settle 52 = .ok (.getfield 9, 3) := by decide +kernel
theorem dX3_settle_55 : decode cX3_settle 55 = .ok (.iload_n 1, 1) := by decide +kernel
theorem dX3_settle_56 : decode cX3_settle 56 = .ok (.iaload, 1) := by decide +kernel
theorem dX3_settle_57 : decode cX3_settle 57 = .ok (.ior, 1) := by decide +kernel
theorem dX3_settle_58 : decode cX3_settle 58 = .ok (.iastore, 1) := by decide +kernel
theorem dX3_settle_59 : decode cX3_settle 59 = .ok (.aload_n 0, 1) := by decide +kernel
theorem dX3_settle_60 : decode cX3_settle 60 = .ok (.getfield 21, 3) := by decide +kernel
theorem dX3_settle_63 : decode cX3_settle 63 = .ok (.iload_n 3, 1) := by decide +kernel
theorem dX3_settle_64 : decode cX3_settle 64 = .ok (.aload_n 0, 1) := by decide +kernel
theorem dX3_settle_65 : decode cX3_settle 65 = .ok (.getfield 21, 3) := by decide +kernel
theorem dX3_settle_68 : decode cX3_settle 68 = .ok (.iload_n 3, 1) := by decide +kernel
theorem dX3_settle_69 : decode cX3_settle 69 = .ok (.iload_n 2, 1) := by decide +kernel
theorem dX3_settle_70 : decode cX3_settle 70 = .ok (.isub, 1) := by decide +kernel
theorem dX3_settle_71 : decode cX3_settle 71 = .ok (.iaload, 1) := by decide +kernel
theorem dX3_settle_72 : decode cX3_settle 72 = .ok (.aload_n 0, 1) := by decide +kernel
theorem dX3_settle_73 : decode cX3_settle 73 = .ok (.getfield 15, 3) := by decide +kernel
theorem dX3_settle_76 : decode cX3_settle 76 = .ok (.iload_n 1, 1) := by decide +kernel
theorem dX3_settle_77 : decode cX3_settle 77 = .ok (.iaload, 1) := by decide +kernel
theorem dX3_settle_78 : decode cX3_settle 78 = .ok (.ior, 1) := by decide +kernel
theorem dX3_settle_79 : decode cX3_settle 79 = .ok (.iastore, 1) := by decide +kernel
theorem dX3_settle_80 : decode cX3_settle 80 = .ok (.iinc 3 1, 3) := by decide +kernel
theorem dX3_settle_83 : decode cX3_settle 83 = .ok (.goto (-59), 3) := by decide +kernel
theorem dX3_settle_86 : decode cX3_settle 86 = .ok (.iinc 1 1, 3) := by decide +kernel
theorem dX3_settle_89 : decode cX3_settle 89 = .ok (.goto (-77), 3) := by decide +kernel
theorem dX3_settle_92 : decode cX3_settle 92 = .ok (.return_, 1) := by decide +kernel
def f_X3_settle (σ : St) : Option (Unit × St) :=
  bd (setI σ 1 1 ((σ.1 1 1) + (1 : Int32))) fun s1 =>
    lo2 FU (fun rec4 (s2 : St) (x3 : Int32) =>
      (if x3 < (8 : Int32) then
        bd ((1 : Int32) <<< (x3 &&& 31)) fun x6 =>
          lo2 FU (fun rec9 (s7 : St) (x8 : Int32) =>
            (if x8 < ((2 : Int32) * x6) then
              (if x8 < (256 : Int32) then
                ck (x8 - x6) 256 <|
                  ck x3 8 <|
                    ck x8 256 <|
                      bd (setI s7 4 x8.toNatClampNeg ((s7.1 4 (x8 - x6).toNatClampNeg) ||| (s7.1 2 x3.toNatClampNeg))) fun s11 =>
                        ck (x8 - x6) 256 <|
                          ck x3 8 <|
                            ck x8 256 <|
                              bd (setI s11 5 x8.toNatClampNeg ((s11.1 5 (x8 - x6).toNatClampNeg) ||| (s11.1 3 x3.toNatClampNeg))) fun s12 =>
                                rec9 s12 (x8 + 1)
                 else
                rec4 s7 (x3 + 1))
               else
              rec4 s7 (x3 + 1))) s2 x6
         else
        some ((), s2))) s1 (0 : Int32)
set_option maxHeartbeats 4000000 in
set_option maxRecDepth 100000 in
theorem c_X3_settle (l : Launch) (E : Ev) (hF : Full E) (σ : St) : Ctr l (en2 enV) (fun q => q.2) E md_X3_settle [rV E 1] σ (f_X3_settle σ) := by
  refine ctr_of rfl (Nat.le_of_ble_eq_true rfl) (fun Γ => ?_)
  show Sim _ Γ _ E md_X3_settle σ 0 [(0, rV E 1)] [] _
  unfold f_X3_settle
  refine s_aload_n dX3_settle_0 0 rfl rfl ?_
  refine s_dup dX3_settle_1 rfl ?_
  refine s_geti gf_X3_35 rfl (m1 hF) k1 (ft_of k1 rfl) dX3_settle_2 ?_
  refine s_iconst (v := 1) dX3_settle_5 (by decide) ?_
  refine s_iadd dX3_settle_6 ?_
  refine s_puti gf_X3_35 rfl (m1 hF) k1 (ft_of k1 rfl) dX3_settle_7 (fun s1 => ?_)
  refine s_iconst (v := 0) dX3_settle_10 (by decide) ?_
  refine s_istore_n [(1, .int (0 : Int32)), (0, rV E 1)] dX3_settle_11 rfl (by decide) rfl ?_
  refine s_sub (lv' := [(0, rV E 1), (1, .int (0 : Int32))]) [1, 0] rfl ?_
  refine s_lo2 (σf := fun s2 x3 => s2) (lvf := fun s2 x3 => [(0, rV E 1), (1, .int x3)]) (fun rec4 ih5 s2 x3 => ?_)
  refine s_iload_n dX3_settle_12 1 rfl rfl ?_
  refine s_bipush (v := 8) dX3_settle_13 (by decide) ?_
  refine s_icmp_ge 92 dX3_settle_15 (by decide) ?_ ?_
  · skip
    refine s_iconst (v := 1) dX3_settle_18 (by decide) ?_
    refine s_iload_n dX3_settle_19 1 rfl rfl ?_
    refine s_ishl dX3_settle_20 ?_
    refine s_istore_nB (fun x6 => [(2, .int x6), (0, rV E 1), (1, .int x3)]) dX3_settle_21 rfl (by decide) (fun _ => rfl) (fun x6 => ?_)
    refine s_iload_n dX3_settle_22 0 rfl rfl ?_
    refine s_istore_n [(3, .int x6), (2, .int x6), (0, rV E 1), (1, .int x3)] dX3_settle_23 rfl (by decide) rfl ?_
    refine s_sub (lv' := [(0, rV E 1), (1, .int x3), (2, .int x6), (3, .int x6)]) [2, 3, 1, 0] rfl ?_
    refine s_lo2 (σf := fun s7 x8 => s7) (lvf := fun s7 x8 => [(0, rV E 1), (1, .int x3), (2, .int x6), (3, .int x8)]) (fun rec9 ih10 s7 x8 => ?_)
    refine s_iload_n dX3_settle_24 3 rfl rfl ?_
    refine s_iconst (v := 2) dX3_settle_25 (by decide) ?_
    refine s_iload_n dX3_settle_26 2 rfl rfl ?_
    refine s_imul dX3_settle_27 ?_
    refine s_icmp_ge 86 dX3_settle_28 (by decide) ?_ ?_
    · skip
      refine s_iload_n dX3_settle_31 3 rfl rfl ?_
      refine s_sipush (v := 256) dX3_settle_32 (by decide) ?_
      refine s_icmp_ge 86 dX3_settle_35 (by decide) ?_ ?_
      · skip
        refine s_aload_n dX3_settle_38 0 rfl rfl ?_
        refine s_getr (b := 4) gf_X3_18 rfl (m1 hF) k1 (ft_of k1 rfl) (hF.2 _ _) rfl dX3_settle_39 ?_
        refine s_iload_n dX3_settle_42 3 rfl rfl ?_
        refine s_aload_n dX3_settle_43 0 rfl rfl ?_
        refine s_getr (b := 4) gf_X3_18 rfl (m1 hF) k1 (ft_of k1 rfl) (hF.2 _ _) rfl dX3_settle_44 ?_
        refine s_iload_n dX3_settle_47 3 rfl rfl ?_
        refine s_iload_n dX3_settle_48 2 rfl rfl ?_
        refine s_isub dX3_settle_49 ?_
        refine s_iald (m4 hF) k4 l4 dX3_settle_50 ?_
        refine s_aload_n dX3_settle_51 0 rfl rfl ?_
        refine s_getr (b := 2) gf_X3_9 rfl (m1 hF) k1 (ft_of k1 rfl) (hF.2 _ _) rfl dX3_settle_52 ?_
        refine s_iload_n dX3_settle_55 1 rfl rfl ?_
        refine s_iald (m2 hF) k2 l2 dX3_settle_56 ?_
        refine s_ior dX3_settle_57 ?_
        refine s_iast (m4 hF) k4 l4 dX3_settle_58 (fun s11 => ?_)
        refine s_aload_n dX3_settle_59 0 rfl rfl ?_
        refine s_getr (b := 5) gf_X3_21 rfl (m1 hF) k1 (ft_of k1 rfl) (hF.2 _ _) rfl dX3_settle_60 ?_
        refine s_iload_n dX3_settle_63 3 rfl rfl ?_
        refine s_aload_n dX3_settle_64 0 rfl rfl ?_
        refine s_getr (b := 5) gf_X3_21 rfl (m1 hF) k1 (ft_of k1 rfl) (hF.2 _ _) rfl dX3_settle_65 ?_
        refine s_iload_n dX3_settle_68 3 rfl rfl ?_
        refine s_iload_n dX3_settle_69 2 rfl rfl ?_
        refine s_isub dX3_settle_70 ?_
        refine s_iald (m5 hF) k5 l5 dX3_settle_71 ?_
        refine s_aload_n dX3_settle_72 0 rfl rfl ?_
        refine s_getr (b := 3) gf_X3_15 rfl (m1 hF) k1 (ft_of k1 rfl) (hF.2 _ _) rfl dX3_settle_73 ?_
        refine s_iload_n dX3_settle_76 1 rfl rfl ?_
        refine s_iald (m3 hF) k3 l3 dX3_settle_77 ?_
        refine s_ior dX3_settle_78 ?_
        refine s_iast (m5 hF) k5 l5 dX3_settle_79 (fun s12 => ?_)
        refine s_iinc [(3, .int (x8 + 1)), (0, rV E 1), (1, .int x3), (2, .int x6)] dX3_settle_80 3 rfl rfl (by decide) rfl ?_
        refine s_goto 24 dX3_settle_83 (by decide) ?_
        refine s_sub [1, 2, 3, 0] rfl ?_
        exact ih10 s12 (x8 + 1)
      · skip
        refine s_iinc [(1, .int (x3 + 1)), (0, rV E 1), (2, .int x6), (3, .int x8)] dX3_settle_86 1 rfl rfl (by decide) rfl ?_
        refine s_goto 12 dX3_settle_89 (by decide) ?_
        refine s_sub [1, 0] rfl ?_
        exact ih5 s7 (x3 + 1)
    · skip
      refine s_iinc [(1, .int (x3 + 1)), (0, rV E 1), (2, .int x6), (3, .int x8)] dX3_settle_86 1 rfl rfl (by decide) rfl ?_
      refine s_goto 12 dX3_settle_89 (by decide) ?_
      refine s_sub [1, 0] rfl ?_
      exact ih5 s7 (x3 + 1)
  · skip
    exact s_return rfl rfl rfl dX3_settle_92
theorem dX3_outOf_0 : decode cX3_outOf 0 = .ok (.aload_n 0, 1) := by decide +kernel
theorem dX3_outOf_1 : decode cX3_outOf 1 = .ok (.iload_n 1, 1) := by decide +kernel
theorem dX3_outOf_2 : decode cX3_outOf 2 = .ok (.invokevirtual 42, 3) := by decide +kernel
theorem dX3_outOf_5 : decode cX3_outOf 5 = .ok (.ifCond .eq 12, 3) := by decide +kernel
theorem dX3_outOf_8 : decode cX3_outOf 8 = .ok (.aload_n 0, 1) := by decide +kernel
theorem dX3_outOf_9 : decode cX3_outOf 9 = .ok (.getfield 9, 3) := by decide +kernel
theorem dX3_outOf_12 : decode cX3_outOf 12 = .ok (.iload_n 1, 1) := by decide +kernel
theorem dX3_outOf_13 : decode cX3_outOf 13 = .ok (.iaload, 1) := by decide +kernel
theorem dX3_outOf_14 : decode cX3_outOf 14 = .ok (.goto 4, 3) := by decide +kernel
theorem dX3_outOf_17 : decode cX3_outOf 17 = .ok (.iconst 0, 1) := by decide +kernel
theorem dX3_outOf_18 : decode cX3_outOf 18 = .ok (.ireturn, 1) := by decide +kernel
def f_X3_outOf (σ : St) (v1 : Int32) : Option Int32 :=
  calP (f_X3_known σ v1) fun r1 =>
    (if r1 = 0 then
      some (0 : Int32)
       else
      ck v1 8 <|
        some (σ.1 2 v1.toNatClampNeg))
set_option maxHeartbeats 4000000 in
set_option maxRecDepth 100000 in
theorem c_X3_outOf (l : Launch) (E : Ev) (hF : Full E) (σ : St) (v1 : Int32) : Ctr l enI (fun _ => σ) E md_X3_outOf [rV E 1, .int v1] σ (f_X3_outOf σ v1) := by
  refine ctr_of rfl (Nat.le_of_ble_eq_true rfl) (fun Γ => ?_)
  show Sim _ Γ _ E md_X3_outOf σ 0 [(0, rV E 1), (1, .int v1)] [] _
  unfold f_X3_outOf
  refine s_aload_n dX3_outOf_0 0 rfl rfl ?_
  refine s_iload_n dX3_outOf_1 1 rfl rfl ?_
  refine s_callVpI (As := [.int v1]) mf_X3_known vf_X3_known ml_X3_42 (c_X3_known _ E hF σ v1) (m1 hF) k1 (by decide) rfl rfl rfl rfl (Nat.le_of_ble_eq_true rfl) rfl dX3_outOf_2 (fun r1 => ?_)
  refine s_if_eq 17 dX3_outOf_5 (by decide) ?_ ?_
  · skip
    refine s_iconst (v := 0) dX3_outOf_17 (by decide) ?_
    exact s_ireturn rfl rfl rfl dX3_outOf_18
  · skip
    refine s_aload_n dX3_outOf_8 0 rfl rfl ?_
    refine s_getr (b := 2) gf_X3_9 rfl (m1 hF) k1 (ft_of k1 rfl) (hF.2 _ _) rfl dX3_outOf_9 ?_
    refine s_iload_n dX3_outOf_12 1 rfl rfl ?_
    refine s_iald (m2 hF) k2 l2 dX3_outOf_13 ?_
    refine s_goto 18 dX3_outOf_14 (by decide) ?_
    exact s_ireturn rfl rfl rfl dX3_outOf_18
theorem dX3_bothWays_0 : decode cX3_bothWays 0 = .ok (.aload_n 0, 1) := by decide +kernel
theorem dX3_bothWays_1 : decode cX3_bothWays 1 = .ok (.iload_n 1, 1) := by decide +kernel
theorem dX3_bothWays_2 : decode cX3_bothWays 2 = .ok (.invokevirtual 42, 3) := by decide +kernel
theorem dX3_bothWays_5 : decode cX3_bothWays 5 = .ok (.ifCond .eq 19, 3) := by decide +kernel
theorem dX3_bothWays_8 : decode cX3_bothWays 8 = .ok (.aload_n 0, 1) := by decide +kernel
theorem dX3_bothWays_9 : decode cX3_bothWays 9 = .ok (.getfield 9, 3) := by decide +kernel
theorem dX3_bothWays_12 : decode cX3_bothWays 12 = .ok (.iload_n 1, 1) := by decide +kernel
theorem dX3_bothWays_13 : decode cX3_bothWays 13 = .ok (.iaload, 1) := by decide +kernel
theorem dX3_bothWays_14 : decode cX3_bothWays 14 = .ok (.aload_n 0, 1) := by decide +kernel
theorem dX3_bothWays_15 : decode cX3_bothWays 15 = .ok (.getfield 15, 3) := by decide +kernel
theorem dX3_bothWays_18 : decode cX3_bothWays 18 = .ok (.iload_n 1, 1) := by decide +kernel
theorem dX3_bothWays_19 : decode cX3_bothWays 19 = .ok (.iaload, 1) := by decide +kernel
theorem dX3_bothWays_20 : decode cX3_bothWays 20 = .ok (.iand, 1) := by decide +kernel
theorem dX3_bothWays_21 : decode cX3_bothWays 21 = .ok (.goto 4, 3) := by decide +kernel
theorem dX3_bothWays_24 : decode cX3_bothWays 24 = .ok (.iconst 0, 1) := by decide +kernel
theorem dX3_bothWays_25 : decode cX3_bothWays 25 = .ok (.ireturn, 1) := by decide +kernel
def f_X3_bothWays (σ : St) (v1 : Int32) : Option Int32 :=
  calP (f_X3_known σ v1) fun r1 =>
    (if r1 = 0 then
      some (0 : Int32)
       else
      ck v1 8 <|
        ck v1 8 <|
          some ((σ.1 2 v1.toNatClampNeg) &&& (σ.1 3 v1.toNatClampNeg)))
set_option maxHeartbeats 4000000 in
set_option maxRecDepth 100000 in
theorem c_X3_bothWays (l : Launch) (E : Ev) (hF : Full E) (σ : St) (v1 : Int32) : Ctr l enI (fun _ => σ) E md_X3_bothWays [rV E 1, .int v1] σ (f_X3_bothWays σ v1) := by
  refine ctr_of rfl (Nat.le_of_ble_eq_true rfl) (fun Γ => ?_)
  show Sim _ Γ _ E md_X3_bothWays σ 0 [(0, rV E 1), (1, .int v1)] [] _
  unfold f_X3_bothWays
  refine s_aload_n dX3_bothWays_0 0 rfl rfl ?_
  refine s_iload_n dX3_bothWays_1 1 rfl rfl ?_
  refine s_callVpI (As := [.int v1]) mf_X3_known vf_X3_known ml_X3_42 (c_X3_known _ E hF σ v1) (m1 hF) k1 (by decide) rfl rfl rfl rfl (Nat.le_of_ble_eq_true rfl) rfl dX3_bothWays_2 (fun r1 => ?_)
  refine s_if_eq 24 dX3_bothWays_5 (by decide) ?_ ?_
  · skip
    refine s_iconst (v := 0) dX3_bothWays_24 (by decide) ?_
    exact s_ireturn rfl rfl rfl dX3_bothWays_25
  · skip
    refine s_aload_n dX3_bothWays_8 0 rfl rfl ?_
    refine s_getr (b := 2) gf_X3_9 rfl (m1 hF) k1 (ft_of k1 rfl) (hF.2 _ _) rfl dX3_bothWays_9 ?_
    refine s_iload_n dX3_bothWays_12 1 rfl rfl ?_
    refine s_iald (m2 hF) k2 l2 dX3_bothWays_13 ?_
    refine s_aload_n dX3_bothWays_14 0 rfl rfl ?_
    refine s_getr (b := 3) gf_X3_15 rfl (m1 hF) k1 (ft_of k1 rfl) (hF.2 _ _) rfl dX3_bothWays_15 ?_
    refine s_iload_n dX3_bothWays_18 1 rfl rfl ?_
    refine s_iald (m3 hF) k3 l3 dX3_bothWays_19 ?_
    refine s_iand dX3_bothWays_20 ?_
    refine s_goto 25 dX3_bothWays_21 (by decide) ?_
    exact s_ireturn rfl rfl rfl dX3_bothWays_25
theorem dX3_aheadOf_0 : decode cX3_aheadOf 0 = .ok (.aload_n 0, 1) := by decide +kernel
theorem dX3_aheadOf_1 : decode cX3_aheadOf 1 = .ok (.getfield 18, 3) := by decide +kernel
theorem dX3_aheadOf_4 : decode cX3_aheadOf 4 = .ok (.iload_n 1, 1) := by decide +kernel
theorem dX3_aheadOf_5 : decode cX3_aheadOf 5 = .ok (.sipush 255, 3) := by decide +kernel
theorem dX3_aheadOf_8 : decode cX3_aheadOf 8 = .ok (.iand, 1) := by decide +kernel
theorem dX3_aheadOf_9 : decode cX3_aheadOf 9 = .ok (.iaload, 1) := by decide +kernel
theorem dX3_aheadOf_10 : decode cX3_aheadOf 10 = .ok (.ireturn, 1) := by decide +kernel
def f_X3_aheadOf (σ : St) (v1 : Int32) : Option Int32 :=
  ck (v1 &&& (255 : Int32)) 256 <|
    some (σ.1 4 (v1 &&& (255 : Int32)).toNatClampNeg)
set_option maxHeartbeats 4000000 in
set_option maxRecDepth 100000 in
theorem c_X3_aheadOf (l : Launch) (E : Ev) (hF : Full E) (σ : St) (v1 : Int32) : Ctr l enI (fun _ => σ) E md_X3_aheadOf [rV E 1, .int v1] σ (f_X3_aheadOf σ v1) := by
  refine ctr_of rfl (Nat.le_of_ble_eq_true rfl) (fun Γ => ?_)
  show Sim _ Γ _ E md_X3_aheadOf σ 0 [(0, rV E 1), (1, .int v1)] [] _
  unfold f_X3_aheadOf
  refine s_aload_n dX3_aheadOf_0 0 rfl rfl ?_
  refine s_getr (b := 4) gf_X3_18 rfl (m1 hF) k1 (ft_of k1 rfl) (hF.2 _ _) rfl dX3_aheadOf_1 ?_
  refine s_iload_n dX3_aheadOf_4 1 rfl rfl ?_
  refine s_sipush (v := 255) dX3_aheadOf_5 (by decide) ?_
  refine s_iand dX3_aheadOf_8 ?_
  refine s_iald (m4 hF) k4 l4 dX3_aheadOf_9 ?_
  exact s_ireturn rfl rfl rfl dX3_aheadOf_10
theorem dX3_behindOf_0 : decode cX3_behindOf 0 = .ok (.aload_n 0, 1) := by decide +kernel
theorem dX3_behindOf_1 : decode cX3_behindOf 1 = .ok (.getfield 21, 3) := by decide +kernel
theorem dX3_behindOf_4 : decode cX3_behindOf 4 = .ok (.iload_n 1, 1) := by decide +kernel
theorem dX3_behindOf_5 : decode cX3_behindOf 5 = .ok (.sipush 255, 3) := by decide +kernel
theorem dX3_behindOf_8 : decode cX3_behindOf 8 = .ok (.iand, 1) := by decide +kernel
theorem dX3_behindOf_9 : decode cX3_behindOf 9 = .ok (.iaload, 1) := by decide +kernel
theorem dX3_behindOf_10 : decode cX3_behindOf 10 = .ok (.ireturn, 1) := by decide +kernel
def f_X3_behindOf (σ : St) (v1 : Int32) : Option Int32 :=
  ck (v1 &&& (255 : Int32)) 256 <|
    some (σ.1 5 (v1 &&& (255 : Int32)).toNatClampNeg)
set_option maxHeartbeats 4000000 in
set_option maxRecDepth 100000 in
theorem c_X3_behindOf (l : Launch) (E : Ev) (hF : Full E) (σ : St) (v1 : Int32) : Ctr l enI (fun _ => σ) E md_X3_behindOf [rV E 1, .int v1] σ (f_X3_behindOf σ v1) := by
  refine ctr_of rfl (Nat.le_of_ble_eq_true rfl) (fun Γ => ?_)
  show Sim _ Γ _ E md_X3_behindOf σ 0 [(0, rV E 1), (1, .int v1)] [] _
  unfold f_X3_behindOf
  refine s_aload_n dX3_behindOf_0 0 rfl rfl ?_
  refine s_getr (b := 5) gf_X3_21 rfl (m1 hF) k1 (ft_of k1 rfl) (hF.2 _ _) rfl dX3_behindOf_1 ?_
  refine s_iload_n dX3_behindOf_4 1 rfl rfl ?_
  refine s_sipush (v := 255) dX3_behindOf_5 (by decide) ?_
  refine s_iand dX3_behindOf_8 ?_
  refine s_iald (m5 hF) k5 l5 dX3_behindOf_9 ?_
  exact s_ireturn rfl rfl rfl dX3_behindOf_10
theorem dX3_around_0 : decode cX3_around 0 = .ok (.aload_n 0, 1) := by decide +kernel
theorem dX3_around_1 : decode cX3_around 1 = .ok (.getfield 18, 3) := by decide +kernel
theorem dX3_around_4 : decode cX3_around 4 = .ok (.iload_n 1, 1) := by decide +kernel
theorem dX3_around_5 : decode cX3_around 5 = .ok (.sipush 255, 3) := by decide +kernel
theorem dX3_around_8 : decode cX3_around 8 = .ok (.iand, 1) := by decide +kernel
theorem dX3_around_9 : decode cX3_around 9 = .ok (.iaload, 1) := by decide +kernel
theorem dX3_around_10 : decode cX3_around 10 = .ok (.aload_n 0, 1) := by decide +kernel
theorem dX3_around_11 : decode cX3_around 11 = .ok (.getfield 21, 3) := by decide +kernel
theorem dX3_around_14 : decode cX3_around 14 = .ok (.iload_n 1, 1) := by decide +kernel
theorem dX3_around_15 : decode cX3_around 15 = .ok (.sipush 255, 3) := by decide +kernel
theorem dX3_around_18 : decode cX3_around 18 = .ok (.iand, 1) := by decide +kernel
theorem dX3_around_19 : decode cX3_around 19 = .ok (.iaload, 1) := by decide +kernel
theorem dX3_around_20 : decode cX3_around 20 = .ok (.ior, 1) := by decide +kernel
theorem dX3_around_21 : decode cX3_around 21 = .ok (.ireturn, 1) := by decide +kernel
def f_X3_around (σ : St) (v1 : Int32) : Option Int32 :=
  ck (v1 &&& (255 : Int32)) 256 <|
    ck (v1 &&& (255 : Int32)) 256 <|
      some ((σ.1 4 (v1 &&& (255 : Int32)).toNatClampNeg) ||| (σ.1 5 (v1 &&& (255 : Int32)).toNatClampNeg))
set_option maxHeartbeats 4000000 in
set_option maxRecDepth 100000 in
theorem c_X3_around (l : Launch) (E : Ev) (hF : Full E) (σ : St) (v1 : Int32) : Ctr l enI (fun _ => σ) E md_X3_around [rV E 1, .int v1] σ (f_X3_around σ v1) := by
  refine ctr_of rfl (Nat.le_of_ble_eq_true rfl) (fun Γ => ?_)
  show Sim _ Γ _ E md_X3_around σ 0 [(0, rV E 1), (1, .int v1)] [] _
  unfold f_X3_around
  refine s_aload_n dX3_around_0 0 rfl rfl ?_
  refine s_getr (b := 4) gf_X3_18 rfl (m1 hF) k1 (ft_of k1 rfl) (hF.2 _ _) rfl dX3_around_1 ?_
  refine s_iload_n dX3_around_4 1 rfl rfl ?_
  refine s_sipush (v := 255) dX3_around_5 (by decide) ?_
  refine s_iand dX3_around_8 ?_
  refine s_iald (m4 hF) k4 l4 dX3_around_9 ?_
  refine s_aload_n dX3_around_10 0 rfl rfl ?_
  refine s_getr (b := 5) gf_X3_21 rfl (m1 hF) k1 (ft_of k1 rfl) (hF.2 _ _) rfl dX3_around_11 ?_
  refine s_iload_n dX3_around_14 1 rfl rfl ?_
  refine s_sipush (v := 255) dX3_around_15 (by decide) ?_
  refine s_iand dX3_around_18 ?_
  refine s_iald (m5 hF) k5 l5 dX3_around_19 ?_
  refine s_ior dX3_around_20 ?_
  exact s_ireturn rfl rfl rfl dX3_around_21
theorem dX3_leftBehind_0 : decode cX3_leftBehind 0 = .ok (.aload_n 0, 1) := by decide +kernel
theorem dX3_leftBehind_1 : decode cX3_leftBehind 1 = .ok (.iload_n 2, 1) := by decide +kernel
theorem dX3_leftBehind_2 : decode cX3_leftBehind 2 = .ok (.iload_n 1, 1) := by decide +kernel
theorem dX3_leftBehind_3 : decode cX3_leftBehind 3 = .ok (.iconst (-1), 1) := by decide +kernel
theorem dX3_leftBehind_4 : decode cX3_leftBehind 4 = .ok (.ixor, 1) := by decide +kernel
theorem dX3_leftBehind_5 : decode cX3_leftBehind 5 = .ok (.iand, 1) := by decide +kernel
theorem dX3_leftBehind_6 : decode cX3_leftBehind 6 = .ok (.invokevirtual 46, 3) := by decide +kernel
theorem dX3_leftBehind_9 : decode cX3_leftBehind 9 = .ok (.iload_n 1, 1) := by decide +kernel
theorem dX3_leftBehind_10 : decode cX3_leftBehind 10 = .ok (.iconst (-1), 1) := by decide +kernel
theorem dX3_leftBehind_11 : decode cX3_leftBehind 11 = .ok (.ixor, 1) := by decide +kernel
theorem dX3_leftBehind_12 : decode cX3_leftBehind 12 = .ok (.iand, 1) := by decide +kernel
theorem dX3_leftBehind_13 : decode cX3_leftBehind 13 = .ok (.ireturn, 1) := by decide +kernel
def f_X3_leftBehind (σ : St) (v1 : Int32) (v2 : Int32) : Option Int32 :=
  calP (f_X3_aheadOf σ (v2 &&& (v1 ^^^ (-1 : Int32)))) fun r1 =>
    some (r1 &&& (v1 ^^^ (-1 : Int32)))
set_option maxHeartbeats 4000000 in
set_option maxRecDepth 100000 in
theorem c_X3_leftBehind (l : Launch) (E : Ev) (hF : Full E) (σ : St) (v1 : Int32) (v2 : Int32) : Ctr l enI (fun _ => σ) E md_X3_leftBehind [rV E 1, .int v1, .int v2] σ (f_X3_leftBehind σ v1 v2) := by
  refine ctr_of rfl (Nat.le_of_ble_eq_true rfl) (fun Γ => ?_)
  show Sim _ Γ _ E md_X3_leftBehind σ 0 [(0, rV E 1), (1, .int v1), (2, .int v2)] [] _
  unfold f_X3_leftBehind
  refine s_aload_n dX3_leftBehind_0 0 rfl rfl ?_
  refine s_iload_n dX3_leftBehind_1 2 rfl rfl ?_
  refine s_iload_n dX3_leftBehind_2 1 rfl rfl ?_
  refine s_iconst (v := -1) dX3_leftBehind_3 (by decide) ?_
  refine s_ixor dX3_leftBehind_4 ?_
  refine s_iand dX3_leftBehind_5 ?_
  refine s_callVpI (As := [.int (v2 &&& (v1 ^^^ (-1 : Int32)))]) mf_X3_aheadOf vf_X3_aheadOf ml_X3_46 (c_X3_aheadOf _ E hF σ (v2 &&& (v1 ^^^ (-1 : Int32)))) (m1 hF) k1 (by decide) rfl rfl rfl rfl (Nat.le_of_ble_eq_true rfl) rfl dX3_leftBehind_6 (fun r1 => ?_)
  refine s_iload_n dX3_leftBehind_9 1 rfl rfl ?_
  refine s_iconst (v := -1) dX3_leftBehind_10 (by decide) ?_
  refine s_ixor dX3_leftBehind_11 ?_
  refine s_iand dX3_leftBehind_12 ?_
  exact s_ireturn rfl rfl rfl dX3_leftBehind_13
theorem dX9_has_0 : decode cX9_has 0 = .ok (.iload_n 0, 1) := by decide +kernel
theorem dX9_has_1 : decode cX9_has 1 = .ok (.iload_n 1, 1) := by decide +kernel
theorem dX9_has_2 : decode cX9_has 2 = .ok (.ishr, 1) := by decide +kernel
theorem dX9_has_3 : decode cX9_has 3 = .ok (.iconst 1, 1) := by decide +kernel
theorem dX9_has_4 : decode cX9_has 4 = .ok (.iand, 1) := by decide +kernel
theorem dX9_has_5 : decode cX9_has 5 = .ok (.ifCond .eq 7, 3) := by decide +kernel
theorem dX9_has_8 : decode cX9_has 8 = .ok (.iconst 1, 1) := by decide +kernel
theorem dX9_has_9 : decode cX9_has 9 = .ok (.goto 4, 3) := by decide +kernel
theorem dX9_has_12 : decode cX9_has 12 = .ok (.iconst 0, 1) := by decide +kernel
theorem dX9_has_13 : decode cX9_has 13 = .ok (.ireturn, 1) := by decide +kernel
def f_X9_has (σ : St) (v0 : Int32) (v1 : Int32) : Option Int32 :=
  (if ((v0 >>> (v1 &&& 31)) &&& (1 : Int32)) = 0 then
    some (0 : Int32)
     else
    some (1 : Int32))
set_option maxHeartbeats 4000000 in
set_option maxRecDepth 100000 in
theorem c_X9_has (l : Launch) (E : Ev) (hF : Full E) (σ : St) (v0 : Int32) (v1 : Int32) : Ctr l enI (fun _ => σ) E md_X9_has [.int v0, .int v1] σ (f_X9_has σ v0 v1) := by
  refine ctr_of rfl (Nat.le_of_ble_eq_true rfl) (fun Γ => ?_)
  show Sim _ Γ _ E md_X9_has σ 0 [(0, .int v0), (1, .int v1)] [] _
  unfold f_X9_has
  refine s_iload_n dX9_has_0 0 rfl rfl ?_
  refine s_iload_n dX9_has_1 1 rfl rfl ?_
  refine s_ishr dX9_has_2 ?_
  refine s_iconst (v := 1) dX9_has_3 (by decide) ?_
  refine s_iand dX9_has_4 ?_
  refine s_if_eq 12 dX9_has_5 (by decide) ?_ ?_
  · skip
    refine s_iconst (v := 0) dX9_has_12 (by decide) ?_
    exact s_zreturn rfl (by decide) rfl rfl dX9_has_13
  · skip
    refine s_iconst (v := 1) dX9_has_8 (by decide) ?_
    refine s_goto 13 dX9_has_9 (by decide) ?_
    exact s_zreturn rfl (by decide) rfl rfl dX9_has_13
theorem dX3_distance_0 : decode cX3_distance 0 = .ok (.iconst 1, 1) := by decide +kernel
theorem dX3_distance_1 : decode cX3_distance 1 = .ok (.iload_n 1, 1) := by decide +kernel
theorem dX3_distance_2 : decode cX3_distance 2 = .ok (.ishl, 1) := by decide +kernel
theorem dX3_distance_3 : decode cX3_distance 3 = .ok (.istore_n 3, 1) := by decide +kernel
theorem dX3_distance_4 : decode cX3_distance 4 = .ok (.iconst 0, 1) := by decide +kernel
theorem dX3_distance_5 : decode cX3_distance 5 = .ok (.istore 4, 2) := by decide +kernel
theorem dX3_distance_7 : decode cX3_distance 7 = .ok (.iload 4, 2) := by decide +kernel
theorem dX3_distance_9 : decode cX3_distance 9 = .ok (.bipush 8, 2) := by decide +kernel
theorem dX3_distance_11 : decode cX3_distance 11 = .ok (.if_icmp .ge 26, 3) := by decide +kernel
theorem dX3_distance_14 : decode cX3_distance 14 = .ok (.iload_n 3, 1) := by decide +kernel
theorem dX3_distance_15 : decode cX3_distance 15 = .ok (.iload_n 2, 1) := by decide +kernel
theorem dX3_distance_16 : decode cX3_distance 16 = .ok (.invokestatic 50, 3) := by decide +kernel
theorem dX3_distance_19 : decode cX3_distance 19 = .ok (.ifCond .eq 6, 3) := by decide +kernel
theorem dX3_distance_22 : decode cX3_distance 22 = .ok (.iload 4, 2) := by decide +kernel
theorem dX3_distance_24 : decode cX3_distance 24 = .ok (.ireturn, 1) := by decide +kernel
theorem dX3_distance_25 : decode cX3_distance 25 = .ok (.aload_n 0, 1) := by decide +kernel
theorem dX3_distance_26 : decode cX3_distance 26 = .ok (.iload_n 3, 1) := by decide +kernel
theorem dX3_distance_27 : decode cX3_distance 27 = .ok (.invokevirtual 46, 3) := by decide +kernel
theorem dX3_distance_30 : decode cX3_distance 30 = .ok (.istore_n 3, 1) := by decide +kernel
theorem dX3_distance_31 : decode cX3_distance 31 = .ok (.iinc 4 1, 3) := by decide +kernel
theorem dX3_distance_34 : decode cX3_distance 34 = .ok (.goto (-27), 3) := by decide +kernel
theorem dX3_distance_37 : decode cX3_distance 37 = .ok (.iconst (-1), 1) := by decide +kernel
theorem dX3_distance_38 : decode cX3_distance 38 = .ok (.ireturn, 1) := by decide +kernel
def f_X3_distance (σ : St) (v1 : Int32) (v2 : Int32) : Option Int32 :=
  bd ((1 : Int32) <<< (v1 &&& 31)) fun x1 =>
    lo2 FU (fun rec4 (x2 : Int32) (x3 : Int32) =>
      (if x3 < (8 : Int32) then
        calP (f_X9_has σ x2 v2) fun r6 =>
          (if r6 = 0 then
            calP (f_X3_aheadOf σ x2) fun r7 =>
              rec4 r7 (x3 + 1)
             else
            some x3)
         else
        some (-1 : Int32))) x1 (0 : Int32)
set_option maxHeartbeats 4000000 in
set_option maxRecDepth 100000 in
theorem c_X3_distance (l : Launch) (E : Ev) (hF : Full E) (σ : St) (v1 : Int32) (v2 : Int32) : Ctr l enI (fun _ => σ) E md_X3_distance [rV E 1, .int v1, .int v2] σ (f_X3_distance σ v1 v2) := by
  refine ctr_of rfl (Nat.le_of_ble_eq_true rfl) (fun Γ => ?_)
  show Sim _ Γ _ E md_X3_distance σ 0 [(0, rV E 1), (1, .int v1), (2, .int v2)] [] _
  unfold f_X3_distance
  refine s_iconst (v := 1) dX3_distance_0 (by decide) ?_
  refine s_iload_n dX3_distance_1 1 rfl rfl ?_
  refine s_ishl dX3_distance_2 ?_
  refine s_istore_nB (fun x1 => [(3, .int x1), (0, rV E 1), (1, .int v1), (2, .int v2)]) dX3_distance_3 rfl (by decide) (fun _ => rfl) (fun x1 => ?_)
  refine s_iconst (v := 0) dX3_distance_4 (by decide) ?_
  refine s_istore [(4, .int (0 : Int32)), (3, .int x1), (0, rV E 1), (1, .int v1), (2, .int v2)] dX3_distance_5 (by decide) rfl ?_
  refine s_sub (lv' := [(0, rV E 1), (2, .int v2), (3, .int x1), (4, .int (0 : Int32))]) [2, 4, 1, 0] rfl ?_
  refine s_lo2 (σf := fun x2 x3 => σ) (lvf := fun x2 x3 => [(0, rV E 1), (2, .int v2), (3, .int x2), (4, .int x3)]) (fun rec4 ih5 x2 x3 => ?_)
  refine s_iload dX3_distance_7 3 rfl ?_
  refine s_bipush (v := 8) dX3_distance_9 (by decide) ?_
  refine s_icmp_ge 37 dX3_distance_11 (by decide) ?_ ?_
  · skip
    refine s_iload_n dX3_distance_14 2 rfl rfl ?_
    refine s_iload_n dX3_distance_15 1 rfl rfl ?_
    refine s_callNpI (As := [.int x2, .int v2]) (host := "RunnerNet") mf_X9_has vf_X9_has (nl_of 2 rfl) (c_X9_has _ E hF σ x2 v2) rfl rfl (Nat.le_of_ble_eq_true rfl) rfl dX3_distance_16 (fun r6 => ?_)
    refine s_if_eq 25 dX3_distance_19 (by decide) ?_ ?_
    · skip
      refine s_aload_n dX3_distance_25 0 rfl rfl ?_
      refine s_iload_n dX3_distance_26 2 rfl rfl ?_
      refine s_callVpI (As := [.int x2]) mf_X3_aheadOf vf_X3_aheadOf ml_X3_46 (c_X3_aheadOf _ E hF σ x2) (m1 hF) k1 (by decide) rfl rfl rfl rfl (Nat.le_of_ble_eq_true rfl) rfl dX3_distance_27 (fun r7 => ?_)
      refine s_istore_n [(3, .int r7), (0, rV E 1), (2, .int v2), (4, .int x3)] dX3_distance_30 rfl (by decide) rfl ?_
      refine s_iinc [(4, .int (x3 + 1)), (3, .int r7), (0, rV E 1), (2, .int v2)] dX3_distance_31 3 rfl rfl (by decide) rfl ?_
      refine s_goto 7 dX3_distance_34 (by decide) ?_
      refine s_sub [2, 3, 1, 0] rfl ?_
      exact ih5 r7 (x3 + 1)
    · skip
      refine s_iload dX3_distance_22 3 rfl ?_
      exact s_ireturn rfl rfl rfl dX3_distance_24
  · skip
    refine s_iconst (v := -1) dX3_distance_37 (by decide) ?_
    exact s_ireturn rfl rfl rfl dX3_distance_38
theorem dJ6_bitCount_0f7a4_0 : decode cJ6_bitCount_0f7a4 0 = .ok (.iload_n 0, 1) := by decide +kernel
theorem dJ6_bitCount_0f7a4_1 : decode cJ6_bitCount_0f7a4 1 = .ok (.iload_n 0, 1) := by decide +kernel
theorem dJ6_bitCount_0f7a4_2 : decode cJ6_bitCount_0f7a4 2 = .ok (.iconst 1, 1) := by decide +kernel
theorem dJ6_bitCount_0f7a4_3 : decode cJ6_bitCount_0f7a4 3 = .ok (.iushr, 1) := by decide +kernel
theorem dJ6_bitCount_0f7a4_4 : decode cJ6_bitCount_0f7a4 4 = .ok (.ldc_w 265, 3) := by decide +kernel
theorem dJ6_bitCount_0f7a4_7 : decode cJ6_bitCount_0f7a4 7 = .ok (.iand, 1) := by decide +kernel
theorem dJ6_bitCount_0f7a4_8 : decode cJ6_bitCount_0f7a4 8 = .ok (.isub, 1) := by decide +kernel
theorem dJ6_bitCount_0f7a4_9 : decode cJ6_bitCount_0f7a4 9 = .ok (.istore_n 0, 1) := by decide +kernel
theorem dJ6_bitCount_0f7a4_10 : decode cJ6_bitCount_0f7a4 10 = .ok (.iload_n 0, 1) := by decide +kernel
theorem dJ6_bitCount_0f7a4_11 : decode cJ6_bitCount_0f7a4 11 = .ok (.ldc_w 266, 3) := by decide +kernel
theorem dJ6_bitCount_0f7a4_14 : decode cJ6_bitCount_0f7a4 14 = .ok (.iand, 1) := by decide +kernel
theorem dJ6_bitCount_0f7a4_15 : decode cJ6_bitCount_0f7a4 15 = .ok (.iload_n 0, 1) := by decide +kernel
theorem dJ6_bitCount_0f7a4_16 : decode cJ6_bitCount_0f7a4 16 = .ok (.iconst 2, 1) := by decide +kernel
theorem dJ6_bitCount_0f7a4_17 : decode cJ6_bitCount_0f7a4 17 = .ok (.iushr, 1) := by decide +kernel
theorem dJ6_bitCount_0f7a4_18 : decode cJ6_bitCount_0f7a4 18 = .ok (.ldc_w 266, 3) := by decide +kernel
theorem dJ6_bitCount_0f7a4_21 : decode cJ6_bitCount_0f7a4 21 = .ok (.iand, 1) := by decide +kernel
theorem dJ6_bitCount_0f7a4_22 : decode cJ6_bitCount_0f7a4 22 = .ok (.iadd, 1) := by decide +kernel
theorem dJ6_bitCount_0f7a4_23 : decode cJ6_bitCount_0f7a4 23 = .ok (.istore_n 0, 1) := by decide +kernel
theorem dJ6_bitCount_0f7a4_24 : decode cJ6_bitCount_0f7a4 24 = .ok (.iload_n 0, 1) := by decide +kernel
theorem dJ6_bitCount_0f7a4_25 : decode cJ6_bitCount_0f7a4 25 = .ok (.iload_n 0, 1) := by decide +kernel
theorem dJ6_bitCount_0f7a4_26 : decode cJ6_bitCount_0f7a4 26 = .ok (.iconst 4, 1) := by decide +kernel
theorem dJ6_bitCount_0f7a4_27 : decode cJ6_bitCount_0f7a4 27 = .ok (.iushr, 1) := by decide +kernel
theorem dJ6_bitCount_0f7a4_28 : decode cJ6_bitCount_0f7a4 28 = .ok (.iadd, 1) := by decide +kernel
theorem dJ6_bitCount_0f7a4_29 : decode cJ6_bitCount_0f7a4 29 = .ok (.ldc_w 267, 3) := by decide +kernel
theorem dJ6_bitCount_0f7a4_32 : decode cJ6_bitCount_0f7a4 32 = .ok (.iand, 1) := by decide +kernel
theorem dJ6_bitCount_0f7a4_33 : decode cJ6_bitCount_0f7a4 33 = .ok (.istore_n 0, 1) := by decide +kernel
theorem dJ6_bitCount_0f7a4_34 : decode cJ6_bitCount_0f7a4 34 = .ok (.iload_n 0, 1) := by decide +kernel
theorem dJ6_bitCount_0f7a4_35 : decode cJ6_bitCount_0f7a4 35 = .ok (.iload_n 0, 1) := by decide +kernel
theorem dJ6_bitCount_0f7a4_36 : decode cJ6_bitCount_0f7a4 36 = .ok (.bipush 8, 2) := by decide +kernel
theorem dJ6_bitCount_0f7a4_38 : decode cJ6_bitCount_0f7a4 38 = .ok (.iushr, 1) := by decide +kernel
theorem dJ6_bitCount_0f7a4_39 : decode cJ6_bitCount_0f7a4 39 = .ok (.iadd, 1) := by decide +kernel
theorem dJ6_bitCount_0f7a4_40 : decode cJ6_bitCount_0f7a4 40 = .ok (.istore_n 0, 1) := by decide +kernel
theorem dJ6_bitCount_0f7a4_41 : decode cJ6_bitCount_0f7a4 41 = .ok (.iload_n 0, 1) := by decide +kernel
theorem dJ6_bitCount_0f7a4_42 : decode cJ6_bitCount_0f7a4 42 = .ok (.iload_n 0, 1) := by decide +kernel
theorem dJ6_bitCount_0f7a4_43 : decode cJ6_bitCount_0f7a4 43 = .ok (.bipush 16, 2) := by decide +kernel
theorem dJ6_bitCount_0f7a4_45 : decode cJ6_bitCount_0f7a4 45 = .ok (.iushr, 1) := by decide +kernel
theorem dJ6_bitCount_0f7a4_46 : decode cJ6_bitCount_0f7a4 46 = .ok (.iadd, 1) := by decide +kernel
theorem dJ6_bitCount_0f7a4_47 : decode cJ6_bitCount_0f7a4 47 = .ok (.istore_n 0, 1) := by decide +kernel
theorem dJ6_bitCount_0f7a4_48 : decode cJ6_bitCount_0f7a4 48 = .ok (.iload_n 0, 1) := by decide +kernel
theorem dJ6_bitCount_0f7a4_49 : decode cJ6_bitCount_0f7a4 49 = .ok (.bipush 63, 2) := by decide +kernel
theorem dJ6_bitCount_0f7a4_51 : decode cJ6_bitCount_0f7a4 51 = .ok (.iand, 1) := by decide +kernel
theorem dJ6_bitCount_0f7a4_52 : decode cJ6_bitCount_0f7a4 52 = .ok (.ireturn, 1) := by decide +kernel
def f_J6_bitCount_0f7a4 (σ : St) (v0 : Int32) : Option Int32 :=
  bd (v0 - ((v0.toUInt32 >>> ((1 : Int32).toUInt32 &&& Int32.toUInt32 31)).toInt32 &&& (1431655765 : Int32))) fun x1 =>
    bd ((x1 &&& (858993459 : Int32)) + ((x1.toUInt32 >>> ((2 : Int32).toUInt32 &&& Int32.toUInt32 31)).toInt32 &&& (858993459 : Int32))) fun x2 =>
      bd ((x2 + (x2.toUInt32 >>> ((4 : Int32).toUInt32 &&& Int32.toUInt32 31)).toInt32) &&& (252645135 : Int32)) fun x3 =>
        bd (x3 + (x3.toUInt32 >>> ((8 : Int32).toUInt32 &&& Int32.toUInt32 31)).toInt32) fun x4 =>
          bd (x4 + (x4.toUInt32 >>> ((16 : Int32).toUInt32 &&& Int32.toUInt32 31)).toInt32) fun x5 =>
            some (x5 &&& (63 : Int32))
set_option maxHeartbeats 4000000 in
set_option maxRecDepth 100000 in
theorem c_J6_bitCount_0f7a4 (l : Launch) (E : Ev) (hF : Full E) (σ : St) (v0 : Int32) : Ctr l enI (fun _ => σ) E md_J6_bitCount_0f7a4 [.int v0] σ (f_J6_bitCount_0f7a4 σ v0) := by
  refine ctr_of rfl (Nat.le_of_ble_eq_true rfl) (fun Γ => ?_)
  show Sim _ Γ _ E md_J6_bitCount_0f7a4 σ 0 [(0, .int v0)] [] _
  unfold f_J6_bitCount_0f7a4
  refine s_iload_n dJ6_bitCount_0f7a4_0 0 rfl rfl ?_
  refine s_iload_n dJ6_bitCount_0f7a4_1 0 rfl rfl ?_
  refine s_iconst (v := 1) dJ6_bitCount_0f7a4_2 (by decide) ?_
  refine s_iushr dJ6_bitCount_0f7a4_3 rfl ?_
  refine s_ldcw (v := 1431655765) rfl w_706 dJ6_bitCount_0f7a4_4 ?_
  refine s_iand dJ6_bitCount_0f7a4_7 ?_
  refine s_isub dJ6_bitCount_0f7a4_8 ?_
  refine s_istore_nB (fun x1 => [(0, .int x1)]) dJ6_bitCount_0f7a4_9 rfl (by decide) (fun _ => rfl) (fun x1 => ?_)
  refine s_iload_n dJ6_bitCount_0f7a4_10 0 rfl rfl ?_
  refine s_ldcw (v := 858993459) rfl w_707 dJ6_bitCount_0f7a4_11 ?_
  refine s_iand dJ6_bitCount_0f7a4_14 ?_
  refine s_iload_n dJ6_bitCount_0f7a4_15 0 rfl rfl ?_
  refine s_iconst (v := 2) dJ6_bitCount_0f7a4_16 (by decide) ?_
  refine s_iushr dJ6_bitCount_0f7a4_17 rfl ?_
  refine s_ldcw (v := 858993459) rfl w_707 dJ6_bitCount_0f7a4_18 ?_
  refine s_iand dJ6_bitCount_0f7a4_21 ?_
  refine s_iadd dJ6_bitCount_0f7a4_22 ?_
  refine s_istore_nB (fun x2 => [(0, .int x2)]) dJ6_bitCount_0f7a4_23 rfl (by decide) (fun _ => rfl) (fun x2 => ?_)
  refine s_iload_n dJ6_bitCount_0f7a4_24 0 rfl rfl ?_
  refine s_iload_n dJ6_bitCount_0f7a4_25 0 rfl rfl ?_
  refine s_iconst (v := 4) dJ6_bitCount_0f7a4_26 (by decide) ?_
  refine s_iushr dJ6_bitCount_0f7a4_27 rfl ?_
  refine s_iadd dJ6_bitCount_0f7a4_28 ?_
  refine s_ldcw (v := 252645135) rfl w_708 dJ6_bitCount_0f7a4_29 ?_
  refine s_iand dJ6_bitCount_0f7a4_32 ?_
  refine s_istore_nB (fun x3 => [(0, .int x3)]) dJ6_bitCount_0f7a4_33 rfl (by decide) (fun _ => rfl) (fun x3 => ?_)
  refine s_iload_n dJ6_bitCount_0f7a4_34 0 rfl rfl ?_
  refine s_iload_n dJ6_bitCount_0f7a4_35 0 rfl rfl ?_
  refine s_bipush (v := 8) dJ6_bitCount_0f7a4_36 (by decide) ?_
  refine s_iushr dJ6_bitCount_0f7a4_38 rfl ?_
  refine s_iadd dJ6_bitCount_0f7a4_39 ?_
  refine s_istore_nB (fun x4 => [(0, .int x4)]) dJ6_bitCount_0f7a4_40 rfl (by decide) (fun _ => rfl) (fun x4 => ?_)
  refine s_iload_n dJ6_bitCount_0f7a4_41 0 rfl rfl ?_
  refine s_iload_n dJ6_bitCount_0f7a4_42 0 rfl rfl ?_
  refine s_bipush (v := 16) dJ6_bitCount_0f7a4_43 (by decide) ?_
  refine s_iushr dJ6_bitCount_0f7a4_45 rfl ?_
  refine s_iadd dJ6_bitCount_0f7a4_46 ?_
  refine s_istore_nB (fun x5 => [(0, .int x5)]) dJ6_bitCount_0f7a4_47 rfl (by decide) (fun _ => rfl) (fun x5 => ?_)
  refine s_iload_n dJ6_bitCount_0f7a4_48 0 rfl rfl ?_
  refine s_bipush (v := 63) dJ6_bitCount_0f7a4_49 (by decide) ?_
  refine s_iand dJ6_bitCount_0f7a4_51 ?_
  exact s_ireturn rfl rfl rfl dJ6_bitCount_0f7a4_52
theorem dX3_pairs_0 : decode cX3_pairs 0 = .ok (.iconst 0, 1) := by decide +kernel
theorem dX3_pairs_1 : decode cX3_pairs 1 = .ok (.istore_n 1, 1) := by decide +kernel
theorem dX3_pairs_2 : decode cX3_pairs 2 = .ok (.iconst 0, 1) := by decide +kernel
theorem dX3_pairs_3 : decode cX3_pairs 3 = .ok (.istore_n 2, 1) := by decide +kernel
theorem dX3_pairs_4 : decode cX3_pairs 4 = .ok (.iload_n 2, 1) := by decide +kernel
theorem dX3_pairs_5 : decode cX3_pairs 5 = .ok (.aload_n 0, 1) := by decide +kernel
theorem dX3_pairs_6 : decode cX3_pairs 6 = .ok (.getfield 31, 3) := by decide +kernel
theorem dX3_pairs_9 : decode cX3_pairs 9 = .ok (.if_icmp .ge 29, 3) := by decide +kernel
theorem dX3_pairs_12 : decode cX3_pairs 12 = .ok (.iload_n 2, 1) := by decide +kernel
theorem dX3_pairs_13 : decode cX3_pairs 13 = .ok (.bipush 8, 2) := by decide +kernel
theorem dX3_pairs_15 : decode cX3_pairs 15 = .ok (.if_icmp .ge 23, 3) := by decide +kernel
theorem dX3_pairs_18 : decode cX3_pairs 18 = .ok (.iload_n 1, 1) := by decide +kernel
theorem dX3_pairs_19 : decode cX3_pairs 19 = .ok (.aload_n 0, 1) := by decide +kernel
theorem dX3_pairs_20 : decode cX3_pairs 20 = .ok (.getfield 9, 3) := by decide +kernel
theorem dX3_pairs_23 : decode cX3_pairs 23 = .ok (.iload_n 2, 1) := by decide +kernel
theorem dX3_pairs_24 : decode cX3_pairs 24 = .ok (.iaload, 1) := by decide +kernel
theorem dX3_pairs_25 : decode cX3_pairs 25 = .ok (.invokestatic 54, 3) := by decide +kernel
theorem dX3_pairs_28 : decode cX3_pairs 28 = .ok (.iconst 1, 1) := by decide +kernel
theorem dX3_pairs_29 : decode cX3_pairs 29 = .ok (.isub, 1) := by decide +kernel
theorem dX3_pairs_30 : decode cX3_pairs 30 = .ok (.iadd, 1) := by decide +kernel
theorem dX3_pairs_31 : decode cX3_pairs 31 = .ok (.istore_n 1, 1) := by decide +kernel
theorem dX3_pairs_32 : decode cX3_pairs 32 = .ok (.iinc 2 1, 3) := by decide +kernel
theorem dX3_pairs_35 : decode cX3_pairs 35 = .ok (.goto (-31), 3) := by decide +kernel
theorem dX3_pairs_38 : decode cX3_pairs 38 = .ok (.iload_n 1, 1) := by decide +kernel
theorem dX3_pairs_39 : decode cX3_pairs 39 = .ok (.ireturn, 1) := by decide +kernel
def f_X3_pairs (σ : St) : Option Int32 :=
  lo2 FU (fun rec3 (x1 : Int32) (x2 : Int32) =>
    (if x2 < (σ.1 1 0) then
      (if x2 < (8 : Int32) then
        ck x2 8 <|
          calP (f_J6_bitCount_0f7a4 σ (σ.1 2 x2.toNatClampNeg)) fun r5 =>
            bd (x1 + (r5 - (1 : Int32))) fun x6 =>
              rec3 x6 (x2 + 1)
         else
        some x1)
       else
      some x1)) (0 : Int32) (0 : Int32)
set_option maxHeartbeats 4000000 in
set_option maxRecDepth 100000 in
theorem c_X3_pairs (l : Launch) (E : Ev) (hF : Full E) (σ : St) : Ctr l enI (fun _ => σ) E md_X3_pairs [rV E 1] σ (f_X3_pairs σ) := by
  refine ctr_of rfl (Nat.le_of_ble_eq_true rfl) (fun Γ => ?_)
  show Sim _ Γ _ E md_X3_pairs σ 0 [(0, rV E 1)] [] _
  unfold f_X3_pairs
  refine s_iconst (v := 0) dX3_pairs_0 (by decide) ?_
  refine s_istore_n [(1, .int (0 : Int32)), (0, rV E 1)] dX3_pairs_1 rfl (by decide) rfl ?_
  refine s_iconst (v := 0) dX3_pairs_2 (by decide) ?_
  refine s_istore_n [(2, .int (0 : Int32)), (1, .int (0 : Int32)), (0, rV E 1)] dX3_pairs_3 rfl (by decide) rfl ?_
  refine s_sub (lv' := [(0, rV E 1), (1, .int (0 : Int32)), (2, .int (0 : Int32))]) [2, 1, 0] rfl ?_
  refine s_lo2 (σf := fun x1 x2 => σ) (lvf := fun x1 x2 => [(0, rV E 1), (1, .int x1), (2, .int x2)]) (fun rec3 ih4 x1 x2 => ?_)
  refine s_iload_n dX3_pairs_4 2 rfl rfl ?_
  refine s_aload_n dX3_pairs_5 0 rfl rfl ?_
  refine s_geti gf_X3_31 rfl (m1 hF) k1 (ft_of k1 rfl) dX3_pairs_6 ?_
  refine s_icmp_ge 38 dX3_pairs_9 (by decide) ?_ ?_
  · skip
    refine s_iload_n dX3_pairs_12 2 rfl rfl ?_
    refine s_bipush (v := 8) dX3_pairs_13 (by decide) ?_
    refine s_icmp_ge 38 dX3_pairs_15 (by decide) ?_ ?_
    · skip
      refine s_iload_n dX3_pairs_18 1 rfl rfl ?_
      refine s_aload_n dX3_pairs_19 0 rfl rfl ?_
      refine s_getr (b := 2) gf_X3_9 rfl (m1 hF) k1 (ft_of k1 rfl) (hF.2 _ _) rfl dX3_pairs_20 ?_
      refine s_iload_n dX3_pairs_23 2 rfl rfl ?_
      refine s_iald (m2 hF) k2 l2 dX3_pairs_24 ?_
      refine s_callSpI (As := [.int (σ.1 2 x2.toNatClampNeg)]) mf_J6_bitCount_0f7a4 vf_J6_bitCount_0f7a4 ml_X3_54 (c_J6_bitCount_0f7a4 _ E hF σ (σ.1 2 x2.toNatClampNeg)) rfl rfl (Nat.le_of_ble_eq_true rfl) rfl dX3_pairs_25 (fun r5 => ?_)
      refine s_iconst (v := 1) dX3_pairs_28 (by decide) ?_
      refine s_isub dX3_pairs_29 ?_
      refine s_iadd dX3_pairs_30 ?_
      refine s_istore_nB (fun x6 => [(1, .int x6), (0, rV E 1), (2, .int x2)]) dX3_pairs_31 rfl (by decide) (fun _ => rfl) (fun x6 => ?_)
      refine s_iinc [(2, .int (x2 + 1)), (1, .int x6), (0, rV E 1)] dX3_pairs_32 2 rfl rfl (by decide) rfl ?_
      refine s_goto 4 dX3_pairs_35 (by decide) ?_
      refine s_sub [2, 1, 0] rfl ?_
      exact ih4 x6 (x2 + 1)
    · skip
      refine s_iload_n dX3_pairs_38 1 rfl rfl ?_
      exact s_ireturn rfl rfl rfl dX3_pairs_39
  · skip
    refine s_iload_n dX3_pairs_38 1 rfl rfl ?_
    exact s_ireturn rfl rfl rfl dX3_pairs_39
end
section
theorem i_vc : Claimed_1_1 ∧ Claimed_1_2 := sorry
end

section
-- ===== PART A: goes FIRST, ahead of the names: the tables' words, and 'selects' of the private methods out of them =====
/-- a private method of a class that the tables say can be made, by its rows of tables_1 -/
def lw_okq (q : MethodName × Nat) : Prop := (q.1.cls ≠ "java/lang/invoke/MethodHandle" ∧ q.1.cls ≠ "java/lang/invoke/VarHandle") ∧ Cond.instantiable q.1.cls q.2 ∈ tables_1 ∧ Cond.privateMethod q.1 ∈ tables_1 ∧ Cond.instanceMethod q.1 ∈ tables_1
theorem lw_p0 : lw_okq (⟨"PactClocks", "requireParty", "(I)V"⟩, 5) := ⟨⟨by decide +kernel, by decide +kernel⟩, List.mem_of_getElem? (i := 25) (by decide +kernel), List.mem_of_getElem? (i := 159) (by decide +kernel), List.mem_of_getElem? (i := 160) (by decide +kernel)⟩
theorem lw_p1 : lw_okq (⟨"java/lang/Throwable", "fillInStackTrace", "(I)Ljava/lang/Throwable;"⟩, 6) := ⟨⟨by decide +kernel, by decide +kernel⟩, List.mem_of_getElem? (i := 203) (by decide +kernel), List.mem_of_getElem? (i := 201) (by decide +kernel), List.mem_of_getElem? (i := 202) (by decide +kernel)⟩
theorem lw_p2 : lw_okq (⟨"PactClocks", "owedBetween", "(II)I"⟩, 5) := ⟨⟨by decide +kernel, by decide +kernel⟩, List.mem_of_getElem? (i := 25) (by decide +kernel), List.mem_of_getElem? (i := 283) (by decide +kernel), List.mem_of_getElem? (i := 284) (by decide +kernel)⟩
theorem lw_p3 : lw_okq (⟨"PactClocks", "coinsAhead", "(III)I"⟩, 5) := ⟨⟨by decide +kernel, by decide +kernel⟩, List.mem_of_getElem? (i := 25) (by decide +kernel), List.mem_of_getElem? (i := 291) (by decide +kernel), List.mem_of_getElem? (i := 292) (by decide +kernel)⟩
theorem lw_p4 : lw_okq (⟨"PactClocks$Book", "move", "(II)V"⟩, 6) := ⟨⟨by decide +kernel, by decide +kernel⟩, List.mem_of_getElem? (i := 89) (by decide +kernel), List.mem_of_getElem? (i := 307) (by decide +kernel), List.mem_of_getElem? (i := 308) (by decide +kernel)⟩
theorem lw_p5 : lw_okq (⟨"PactClocks$Book", "begin", "(I)V"⟩, 6) := ⟨⟨by decide +kernel, by decide +kernel⟩, List.mem_of_getElem? (i := 89) (by decide +kernel), List.mem_of_getElem? (i := 315) (by decide +kernel), List.mem_of_getElem? (i := 316) (by decide +kernel)⟩
theorem lw_p6 : lw_okq (⟨"PactClocks$Book", "runsOutToday", "(I)Z"⟩, 6) := ⟨⟨by decide +kernel, by decide +kernel⟩, List.mem_of_getElem? (i := 89) (by decide +kernel), List.mem_of_getElem? (i := 327) (by decide +kernel), List.mem_of_getElem? (i := 328) (by decide +kernel)⟩
theorem lw_p7 : lw_okq (⟨"PactClocks$Book", "fail", "(I)V"⟩, 6) := ⟨⟨by decide +kernel, by decide +kernel⟩, List.mem_of_getElem? (i := 89) (by decide +kernel), List.mem_of_getElem? (i := 331) (by decide +kernel), List.mem_of_getElem? (i := 332) (by decide +kernel)⟩
theorem lw_p8 : lw_okq (⟨"PactClocks", "requireDuty", "(I)V"⟩, 5) := ⟨⟨by decide +kernel, by decide +kernel⟩, List.mem_of_getElem? (i := 25) (by decide +kernel), List.mem_of_getElem? (i := 358) (by decide +kernel), List.mem_of_getElem? (i := 359) (by decide +kernel)⟩
theorem lw_p9 : lw_okq (⟨"PactClocks$Terms", "keepText", "(I)V"⟩, 11) := ⟨⟨by decide +kernel, by decide +kernel⟩, List.mem_of_getElem? (i := 33) (by decide +kernel), List.mem_of_getElem? (i := 437) (by decide +kernel), List.mem_of_getElem? (i := 438) (by decide +kernel)⟩
theorem lw_p10 : lw_okq (⟨"PactClocksModel", "no", "(I)I"⟩, 13) := ⟨⟨by decide +kernel, by decide +kernel⟩, List.mem_of_getElem? (i := 768) (by decide +kernel), List.mem_of_getElem? (i := 827) (by decide +kernel), List.mem_of_getElem? (i := 828) (by decide +kernel)⟩
theorem lw_p11 : lw_okq (⟨"PactClocksModel", "isParty", "(I)Z"⟩, 13) := ⟨⟨by decide +kernel, by decide +kernel⟩, List.mem_of_getElem? (i := 768) (by decide +kernel), List.mem_of_getElem? (i := 835) (by decide +kernel), List.mem_of_getElem? (i := 836) (by decide +kernel)⟩
theorem lw_p12 : lw_okq (⟨"PactClocksModel", "isDuty", "(I)Z"⟩, 13) := ⟨⟨by decide +kernel, by decide +kernel⟩, List.mem_of_getElem? (i := 768) (by decide +kernel), List.mem_of_getElem? (i := 839) (by decide +kernel), List.mem_of_getElem? (i := 840) (by decide +kernel)⟩
theorem lw_p13 : lw_okq (⟨"PactClocksModel", "state", "(I)I"⟩, 13) := ⟨⟨by decide +kernel, by decide +kernel⟩, List.mem_of_getElem? (i := 768) (by decide +kernel), List.mem_of_getElem? (i := 843) (by decide +kernel), List.mem_of_getElem? (i := 844) (by decide +kernel)⟩
theorem lw_p14 : lw_okq (⟨"PactClocksModel", "end", "(II)V"⟩, 13) := ⟨⟨by decide +kernel, by decide +kernel⟩, List.mem_of_getElem? (i := 768) (by decide +kernel), List.mem_of_getElem? (i := 847) (by decide +kernel), List.mem_of_getElem? (i := 848) (by decide +kernel)⟩
theorem lw_p15 : lw_okq (⟨"PactClocksModel", "run", "(I)V"⟩, 13) := ⟨⟨by decide +kernel, by decide +kernel⟩, List.mem_of_getElem? (i := 768) (by decide +kernel), List.mem_of_getElem? (i := 851) (by decide +kernel), List.mem_of_getElem? (i := 852) (by decide +kernel)⟩
def lw_privs_1 : List (MethodName × Nat) := [(⟨"PactClocks", "requireParty", "(I)V"⟩, 5), (⟨"java/lang/Throwable", "fillInStackTrace", "(I)Ljava/lang/Throwable;"⟩, 6), (⟨"PactClocks", "owedBetween", "(II)I"⟩, 5), (⟨"PactClocks", "coinsAhead", "(III)I"⟩, 5), (⟨"PactClocks$Book", "move", "(II)V"⟩, 6), (⟨"PactClocks$Book", "begin", "(I)V"⟩, 6), (⟨"PactClocks$Book", "runsOutToday", "(I)Z"⟩, 6), (⟨"PactClocks$Book", "fail", "(I)V"⟩, 6), (⟨"PactClocks", "requireDuty", "(I)V"⟩, 5), (⟨"PactClocks$Terms", "keepText", "(I)V"⟩, 11), (⟨"PactClocksModel", "no", "(I)I"⟩, 13), (⟨"PactClocksModel", "isParty", "(I)Z"⟩, 13), (⟨"PactClocksModel", "isDuty", "(I)Z"⟩, 13), (⟨"PactClocksModel", "state", "(I)I"⟩, 13), (⟨"PactClocksModel", "end", "(II)V"⟩, 13), (⟨"PactClocksModel", "run", "(I)V"⟩, 13)]
theorem lw_r1 : ∀ q ∈ lw_privs_1, lw_okq q := List.forall_mem_cons.mpr ⟨lw_p0, List.forall_mem_cons.mpr ⟨lw_p1, List.forall_mem_cons.mpr ⟨lw_p2, List.forall_mem_cons.mpr ⟨lw_p3, List.forall_mem_cons.mpr ⟨lw_p4, List.forall_mem_cons.mpr ⟨lw_p5, List.forall_mem_cons.mpr ⟨lw_p6, List.forall_mem_cons.mpr ⟨lw_p7, List.forall_mem_cons.mpr ⟨lw_p8, List.forall_mem_cons.mpr ⟨lw_p9, List.forall_mem_cons.mpr ⟨lw_p10, List.forall_mem_cons.mpr ⟨lw_p11, List.forall_mem_cons.mpr ⟨lw_p12, List.forall_mem_cons.mpr ⟨lw_p13, List.forall_mem_cons.mpr ⟨lw_p14, List.forall_mem_cons.mpr ⟨lw_p15, fun _ h => absurd h List.not_mem_nil⟩⟩⟩⟩⟩⟩⟩⟩⟩⟩⟩⟩⟩⟩⟩⟩
theorem lw_p16 : lw_okq (⟨"PactClocksModel", "canPay", "(I)Z"⟩, 13) := ⟨⟨by decide +kernel, by decide +kernel⟩, List.mem_of_getElem? (i := 768) (by decide +kernel), List.mem_of_getElem? (i := 859) (by decide +kernel), List.mem_of_getElem? (i := 860) (by decide +kernel)⟩
theorem lw_p17 : lw_okq (⟨"PactClocksModel", "isOpen", "(I)Z"⟩, 13) := ⟨⟨by decide +kernel, by decide +kernel⟩, List.mem_of_getElem? (i := 768) (by decide +kernel), List.mem_of_getElem? (i := 863) (by decide +kernel), List.mem_of_getElem? (i := 864) (by decide +kernel)⟩
theorem lw_p18 : lw_okq (⟨"PactClocksModel", "price", "(I)I"⟩, 13) := ⟨⟨by decide +kernel, by decide +kernel⟩, List.mem_of_getElem? (i := 768) (by decide +kernel), List.mem_of_getElem? (i := 867) (by decide +kernel), List.mem_of_getElem? (i := 868) (by decide +kernel)⟩
theorem lw_p19 : lw_okq (⟨"PactClocksModel", "paid", "(I)V"⟩, 13) := ⟨⟨by decide +kernel, by decide +kernel⟩, List.mem_of_getElem? (i := 768) (by decide +kernel), List.mem_of_getElem? (i := 871) (by decide +kernel), List.mem_of_getElem? (i := 872) (by decide +kernel)⟩
theorem lw_p20 : lw_okq (⟨"PactClocksModel", "move", "(III)V"⟩, 13) := ⟨⟨by decide +kernel, by decide +kernel⟩, List.mem_of_getElem? (i := 768) (by decide +kernel), List.mem_of_getElem? (i := 875) (by decide +kernel), List.mem_of_getElem? (i := 876) (by decide +kernel)⟩
theorem lw_p21 : lw_okq (⟨"PactClocksModel", "releaseBehind", "(I)I"⟩, 13) := ⟨⟨by decide +kernel, by decide +kernel⟩, List.mem_of_getElem? (i := 768) (by decide +kernel), List.mem_of_getElem? (i := 883) (by decide +kernel), List.mem_of_getElem? (i := 884) (by decide +kernel)⟩
theorem lw_p22 : lw_okq (⟨"PactClocksModel", "count", "(I)I"⟩, 13) := ⟨⟨by decide +kernel, by decide +kernel⟩, List.mem_of_getElem? (i := 768) (by decide +kernel), List.mem_of_getElem? (i := 899) (by decide +kernel), List.mem_of_getElem? (i := 900) (by decide +kernel)⟩
theorem lw_p23 : lw_okq (⟨"PactClocksModel", "daysOn", "(I)V"⟩, 13) := ⟨⟨by decide +kernel, by decide +kernel⟩, List.mem_of_getElem? (i := 768) (by decide +kernel), List.mem_of_getElem? (i := 903) (by decide +kernel), List.mem_of_getElem? (i := 904) (by decide +kernel)⟩
theorem lw_p24 : lw_okq (⟨"PactClocksModel", "dayOn", "()V"⟩, 13) := ⟨⟨by decide +kernel, by decide +kernel⟩, List.mem_of_getElem? (i := 768) (by decide +kernel), List.mem_of_getElem? (i := 907) (by decide +kernel), List.mem_of_getElem? (i := 908) (by decide +kernel)⟩
theorem lw_p25 : lw_okq (⟨"PactClocksModel", "tick", "(I)V"⟩, 13) := ⟨⟨by decide +kernel, by decide +kernel⟩, List.mem_of_getElem? (i := 768) (by decide +kernel), List.mem_of_getElem? (i := 911) (by decide +kernel), List.mem_of_getElem? (i := 912) (by decide +kernel)⟩
theorem lw_p26 : lw_okq (⟨"PactClocksModel", "fail", "(I)V"⟩, 13) := ⟨⟨by decide +kernel, by decide +kernel⟩, List.mem_of_getElem? (i := 768) (by decide +kernel), List.mem_of_getElem? (i := 915) (by decide +kernel), List.mem_of_getElem? (i := 916) (by decide +kernel)⟩
theorem lw_p27 : lw_okq (⟨"PactClocksModel", "ok", "(I)I"⟩, 13) := ⟨⟨by decide +kernel, by decide +kernel⟩, List.mem_of_getElem? (i := 768) (by decide +kernel), List.mem_of_getElem? (i := 924) (by decide +kernel), List.mem_of_getElem? (i := 925) (by decide +kernel)⟩
theorem lw_p28 : lw_okq (⟨"PactClocksModel", "ofDuty", "(II)I"⟩, 13) := ⟨⟨by decide +kernel, by decide +kernel⟩, List.mem_of_getElem? (i := 768) (by decide +kernel), List.mem_of_getElem? (i := 952) (by decide +kernel), List.mem_of_getElem? (i := 953) (by decide +kernel)⟩
theorem lw_p29 : lw_okq (⟨"PactClocksModel", "behind", "(I)I"⟩, 13) := ⟨⟨by decide +kernel, by decide +kernel⟩, List.mem_of_getElem? (i := 768) (by decide +kernel), List.mem_of_getElem? (i := 972) (by decide +kernel), List.mem_of_getElem? (i := 973) (by decide +kernel)⟩
theorem lw_p30 : lw_okq (⟨"PactClocksModel", "hangsOn", "(II)Z"⟩, 13) := ⟨⟨by decide +kernel, by decide +kernel⟩, List.mem_of_getElem? (i := 768) (by decide +kernel), List.mem_of_getElem? (i := 976) (by decide +kernel), List.mem_of_getElem? (i := 977) (by decide +kernel)⟩
theorem lw_p31 : lw_okq (⟨"PactClocksModel", "depth", "(I)I"⟩, 13) := ⟨⟨by decide +kernel, by decide +kernel⟩, List.mem_of_getElem? (i := 768) (by decide +kernel), List.mem_of_getElem? (i := 984) (by decide +kernel), List.mem_of_getElem? (i := 985) (by decide +kernel)⟩
def lw_privs_2 : List (MethodName × Nat) := [(⟨"PactClocksModel", "canPay", "(I)Z"⟩, 13), (⟨"PactClocksModel", "isOpen", "(I)Z"⟩, 13), (⟨"PactClocksModel", "price", "(I)I"⟩, 13), (⟨"PactClocksModel", "paid", "(I)V"⟩, 13), (⟨"PactClocksModel", "move", "(III)V"⟩, 13), (⟨"PactClocksModel", "releaseBehind", "(I)I"⟩, 13), (⟨"PactClocksModel", "count", "(I)I"⟩, 13), (⟨"PactClocksModel", "daysOn", "(I)V"⟩, 13), (⟨"PactClocksModel", "dayOn", "()V"⟩, 13), (⟨"PactClocksModel", "tick", "(I)V"⟩, 13), (⟨"PactClocksModel", "fail", "(I)V"⟩, 13), (⟨"PactClocksModel", "ok", "(I)I"⟩, 13), (⟨"PactClocksModel", "ofDuty", "(II)I"⟩, 13), (⟨"PactClocksModel", "behind", "(I)I"⟩, 13), (⟨"PactClocksModel", "hangsOn", "(II)Z"⟩, 13), (⟨"PactClocksModel", "depth", "(I)I"⟩, 13)]
theorem lw_r2 : ∀ q ∈ lw_privs_2, lw_okq q := List.forall_mem_cons.mpr ⟨lw_p16, List.forall_mem_cons.mpr ⟨lw_p17, List.forall_mem_cons.mpr ⟨lw_p18, List.forall_mem_cons.mpr ⟨lw_p19, List.forall_mem_cons.mpr ⟨lw_p20, List.forall_mem_cons.mpr ⟨lw_p21, List.forall_mem_cons.mpr ⟨lw_p22, List.forall_mem_cons.mpr ⟨lw_p23, List.forall_mem_cons.mpr ⟨lw_p24, List.forall_mem_cons.mpr ⟨lw_p25, List.forall_mem_cons.mpr ⟨lw_p26, List.forall_mem_cons.mpr ⟨lw_p27, List.forall_mem_cons.mpr ⟨lw_p28, List.forall_mem_cons.mpr ⟨lw_p29, List.forall_mem_cons.mpr ⟨lw_p30, List.forall_mem_cons.mpr ⟨lw_p31, fun _ h => absurd h List.not_mem_nil⟩⟩⟩⟩⟩⟩⟩⟩⟩⟩⟩⟩⟩⟩⟩⟩
theorem lw_p32 : lw_okq (⟨"PactClocksModel", "written", "(I)I"⟩, 13) := ⟨⟨by decide +kernel, by decide +kernel⟩, List.mem_of_getElem? (i := 768) (by decide +kernel), List.mem_of_getElem? (i := 992) (by decide +kernel), List.mem_of_getElem? (i := 993) (by decide +kernel)⟩
theorem lw_p33 : lw_okq (⟨"PactClocksModel", "write", "(I)V"⟩, 13) := ⟨⟨by decide +kernel, by decide +kernel⟩, List.mem_of_getElem? (i := 768) (by decide +kernel), List.mem_of_getElem? (i := 996) (by decide +kernel), List.mem_of_getElem? (i := 997) (by decide +kernel)⟩
theorem lw_p34 : lw_okq (⟨"PactClocksModel", "seal", "(I)I"⟩, 13) := ⟨⟨by decide +kernel, by decide +kernel⟩, List.mem_of_getElem? (i := 768) (by decide +kernel), List.mem_of_getElem? (i := 1134) (by decide +kernel), List.mem_of_getElem? (i := 1135) (by decide +kernel)⟩
theorem lw_p35 : lw_okq (⟨"PactClocksModel", "owed", "(I)I"⟩, 13) := ⟨⟨by decide +kernel, by decide +kernel⟩, List.mem_of_getElem? (i := 768) (by decide +kernel), List.mem_of_getElem? (i := 1143) (by decide +kernel), List.mem_of_getElem? (i := 1144) (by decide +kernel)⟩
theorem lw_p36 : lw_okq (⟨"PactClocksModel", "between", "(II)I"⟩, 13) := ⟨⟨by decide +kernel, by decide +kernel⟩, List.mem_of_getElem? (i := 768) (by decide +kernel), List.mem_of_getElem? (i := 1151) (by decide +kernel), List.mem_of_getElem? (i := 1152) (by decide +kernel)⟩
theorem lw_p37 : lw_okq (⟨"PactClocksModel", "weak", "()I"⟩, 13) := ⟨⟨by decide +kernel, by decide +kernel⟩, List.mem_of_getElem? (i := 768) (by decide +kernel), List.mem_of_getElem? (i := 1159) (by decide +kernel), List.mem_of_getElem? (i := 1160) (by decide +kernel)⟩
theorem lw_p38 : lw_okq (⟨"PactClocksModel", "untilFailed", "(I)I"⟩, 13) := ⟨⟨by decide +kernel, by decide +kernel⟩, List.mem_of_getElem? (i := 768) (by decide +kernel), List.mem_of_getElem? (i := 1167) (by decide +kernel), List.mem_of_getElem? (i := 1168) (by decide +kernel)⟩
theorem lw_p39 : lw_okq (⟨"PactClocksModel", "keep", "()V"⟩, 13) := ⟨⟨by decide +kernel, by decide +kernel⟩, List.mem_of_getElem? (i := 768) (by decide +kernel), List.mem_of_getElem? (i := 1171) (by decide +kernel), List.mem_of_getElem? (i := 1172) (by decide +kernel)⟩
theorem lw_p40 : lw_okq (⟨"PactClocksModel", "bringBack", "()V"⟩, 13) := ⟨⟨by decide +kernel, by decide +kernel⟩, List.mem_of_getElem? (i := 768) (by decide +kernel), List.mem_of_getElem? (i := 1176) (by decide +kernel), List.mem_of_getElem? (i := 1177) (by decide +kernel)⟩
theorem lw_p41 : lw_okq (⟨"PactClocksModel", "later", "(II)I"⟩, 13) := ⟨⟨by decide +kernel, by decide +kernel⟩, List.mem_of_getElem? (i := 768) (by decide +kernel), List.mem_of_getElem? (i := 1184) (by decide +kernel), List.mem_of_getElem? (i := 1185) (by decide +kernel)⟩
theorem lw_p42 : lw_okq (⟨"PactClocksModel", "best", "(I)I"⟩, 13) := ⟨⟨by decide +kernel, by decide +kernel⟩, List.mem_of_getElem? (i := 768) (by decide +kernel), List.mem_of_getElem? (i := 1192) (by decide +kernel), List.mem_of_getElem? (i := 1193) (by decide +kernel)⟩
def lw_privs_3 : List (MethodName × Nat) := [(⟨"PactClocksModel", "written", "(I)I"⟩, 13), (⟨"PactClocksModel", "write", "(I)V"⟩, 13), (⟨"PactClocksModel", "seal", "(I)I"⟩, 13), (⟨"PactClocksModel", "owed", "(I)I"⟩, 13), (⟨"PactClocksModel", "between", "(II)I"⟩, 13), (⟨"PactClocksModel", "weak", "()I"⟩, 13), (⟨"PactClocksModel", "untilFailed", "(I)I"⟩, 13), (⟨"PactClocksModel", "keep", "()V"⟩, 13), (⟨"PactClocksModel", "bringBack", "()V"⟩, 13), (⟨"PactClocksModel", "later", "(II)I"⟩, 13), (⟨"PactClocksModel", "best", "(I)I"⟩, 13)]
theorem lw_r3 : ∀ q ∈ lw_privs_3, lw_okq q := List.forall_mem_cons.mpr ⟨lw_p32, List.forall_mem_cons.mpr ⟨lw_p33, List.forall_mem_cons.mpr ⟨lw_p34, List.forall_mem_cons.mpr ⟨lw_p35, List.forall_mem_cons.mpr ⟨lw_p36, List.forall_mem_cons.mpr ⟨lw_p37, List.forall_mem_cons.mpr ⟨lw_p38, List.forall_mem_cons.mpr ⟨lw_p39, List.forall_mem_cons.mpr ⟨lw_p40, List.forall_mem_cons.mpr ⟨lw_p41, List.forall_mem_cons.mpr ⟨lw_p42, fun _ h => absurd h List.not_mem_nil⟩⟩⟩⟩⟩⟩⟩⟩⟩⟩⟩
def lw_privs : List (MethodName × Nat) := lw_privs_1 ++ (lw_privs_2 ++ (lw_privs_3))
def lw_tbl : List Cond := k2_sels lw_privs ++ tables_1
theorem lw_privs_ok : ∀ q ∈ lw_privs, lw_okq q := by
  show ∀ q ∈ lw_privs_1 ++ (lw_privs_2 ++ (lw_privs_3)), lw_okq q
  exact List.forall_mem_append.mpr ⟨lw_r1, List.forall_mem_append.mpr ⟨lw_r2, lw_r3⟩⟩
/-- the streams that the claim lets the run draw from -/
abbrev lw_cs : List Choice := [Jvm.Choice.named "NaN.bits"]
theorem lw_bits : nanBits ∈ lw_cs := by first | decide | exact List.mem_cons_self | simp [lw_cs, nanBits]

/-! ===== BEGIN words of one list among another's, by their places ===== -/
theorem goodIn_r {big : List Cond} (ws : List Cond) (ps : List Nat) (hp : ws = ps.filterMap (fun i => big[i]?)) (h : ws.all goodWord = true) : GoodIn big ws := by
  intro w hw
  have h1 := List.all_eq_true.mp h w hw
  rw [hp] at hw
  obtain ⟨i, -, hi⟩ := List.mem_filterMap.mp hw
  have hm : w ∈ big := by first | exact List.mem_of_getElem? hi | exact List.getElem?_mem hi
  exact ⟨hm, good_of_word h1⟩
theorem goodIn_app {big a b : List Cond} (ha : GoodIn big a) (hb : GoodIn big b) : GoodIn big (a ++ b) := fun w h => (List.mem_append.mp h).elim (ha w) (hb w)
theorem goodIn_ca {big a b : List Cond} {c : Cond} (ha : GoodIn big (c :: a)) (hb : GoodIn big b) : GoodIn big (c :: (a ++ b)) := fun w h => (List.mem_cons.mp h).elim (fun e => ha w (List.mem_cons.mpr (Or.inl e))) (fun h => (List.mem_append.mp h).elim (fun h => ha w (List.mem_cons.mpr (Or.inr h))) (hb w))
theorem goodIn_sub {big ws : List Cond} (hm : ∀ w ∈ ws, w ∈ big) (h : ws.all goodWord = true) : GoodIn big ws := fun w hw => ⟨hm w hw, good_of_word (List.all_eq_true.mp h w hw)⟩
/-! ===== END ===== -/

/-! ===== BEGIN exceptions that leave a method, and their catching by the caller (launches without stack traces) ===== -/
section VXA
/-! The laws vx_back, vx_callV, vx_callS, vx_callSW, vx_throw0, vx_throwS follow proofs of the library, with one case more: JvmDerived/Free/Laws.lean (Back.of_free), Shelf42/LK1.lean (callV, callS), Shelf/KitTraced.lean (throwNew0V, throwNewS). -/
/-- where a method has thrown q: the class by its name, the cell, what was written, the world -/
def vx_T (XC : String → State → State → Prop) (st : State) (q : Addr) (t : State) (mc ms : Nat) (free : Addr → Prop) : Prop :=
  ∃ (E : String) (ce : Cell) (L : List Loc), XC E st t ∧ t.heap[q]? = some ce ∧ ce.vm = .none ∧ st.vm.findClass E = some ce.cls ∧ st.WarmedH t.vm ∧ st.sameButNew ({ t with vm := st.vm } : State) L mc ms ∧ ∀ z ∈ L, free z.base
def vx_Q (Qc : Array Value → State → Outcome → State → Prop) (XC : String → State → State → Prop) (mc ms : Nat) (free : Addr → Prop) : Array Value → State → Outcome → State → Prop := fun a st o t =>
  (Qc a st o t ∧ ∃ L, FrameEnd st o t L mc ms ∧ ∀ q ∈ L, free q.base) ∨ ∃ q, o = .threw q ∧ vx_T XC st q t mc ms free
/-- a callee that returns or throws -/
def vx_Met (l : Launch) (y : MethodName) (ws : List Cond) (rm : Room) (Pc : Array Value → State → Prop) (Qc : Array Value → State → Outcome → State → Prop) (XC : String → State → State → Prop) (mc ms : Nat) (free : Addr → Prop) : Prop :=
  MetFree l y (headSpec ws rm) Pc (fun _ _ _ _ _ => True) (vx_Q Qc XC mc ms free)
def vx_Post (XC : String → State → State → Prop) (mc ms : Nat) (free : Addr → Prop) : Pt → Array Value → Addr → Pt → Prop := fun A a q B =>
  ∃ (g : JFrame) (mk : MethodId) (t : State) (L : List Loc) (E : String) (ce : Cell), B.U.heap = t.heap ∧ B.U.vm = t.vm ∧ XC E (A.U.calling g mk a) t ∧ t.heap[q]? = some ce ∧ ce.vm = .none ∧ A.U.vm.findClass E = some ce.cls ∧ B.locs = A.locs ++ L ∧ (∀ z ∈ L, free z.base) ∧ B.cells = A.cells + mc ∧ B.slots = A.slots + ms
def vx_Back (l : Launch) (R : Room) (p : Program) (e : Env) (below : List Frame) (s : State) (sargs : Array Value) (y : MethodName) (len W9 : Nat)
    (Pre : Pt → Array Value → Prop) (Post : Pt → Array Value → Option Value → Pt → Prop) (PostX : Pt → Array Value → Addr → Pt → Prop) : Prop :=
  ∀ (m : MethodId) (meth : Method) (c : Code) (A : Pt) (g : JFrame) (ig : Instr) (mk : MethodId) (a : Array Value),
    Stand p l e R s m sargs below meth c A.U A.locs A.cells A.slots → g.method = m → g.locals.size = c.maxLocals → decode c.code g.pc = .ok (ig, len) →
    2 * g.monitorRoom + (g.stack.map fun v => v.category).sum ≤ W9 → A.U.methodNamed? y = some mk → Pre A a →
    (∃ (v : Option Value) (B : Pt), Stand p l e R s m sargs below meth c B.U B.locs B.cells B.slots ∧ Post A a v B ∧
      Steps p.tables e below (doInvoke e (A.U.setTop g) [] mk a).1 (B.U.setTop { g with pc := g.pc + len, stack := v.toList ++ g.stack })) ∨
    (∃ (q : Addr) (B : Pt), Stand p l e R s m sargs below meth c B.U B.locs B.cells B.slots ∧ PostX A a q B ∧
      Steps p.tables e below (doInvoke e (A.U.setTop g) [] mk a).1 ((B.U.setTop g).pushFrame (.throwing q)))
section Payer
variable {l : Launch} {R : Room} {p : Program} {e : Env} {below : List Frame} {s : State} {sargs : Array Value} {y : MethodName} {len W9 : Nat}
theorem vx_back {ws : List Cond} {rm : Room} {Pc : Array Value → State → Prop} {Qc : Array Value → State → Outcome → State → Prop} {XC : String → State → State → Prop} {mc ms : Nat} {free : Addr → Prop} {bytes : ByteArray} {maxL : Nat} {ret : Option FieldType}
    (hM : vx_Met l y ws rm Pc Qc XC mc ms free) (hblind : FrameBlind Pc) (hrc : rm.cells = mc) (hrs : rm.slots = ms)
    (hframes : rm.frames + 1 ≤ R.frames) (hlocals : W9 + (maxL + 11) + rm.locals ≤ R.locals)
    (hws : ∀ w ∈ ws, ∀ a' U, s.WarmedH U.vm → w.before a' U = true) (hcode : Cond.code y bytes maxL ret ∈ ws) (hinit : ∀ a' U, s.WarmedH U.vm → (Cond.initialized y.cls).before a' U = true) :
    vx_Back l R p e below s sargs y len W9 (PreOf R mc ms Pc) (PostOf Qc mc ms free) (vx_Post XC mc ms free) := by
  intro m meth c A g ig mk a X hg hsize hdg hW hn hp
  have h1 : (headSpec ws rm).pre.before a A.U = true := atoms_intro fun w hw => hws w hw _ _ X.warmed
  have h2 : (Cond.code y bytes maxL ret).before a A.U = true := hws _ hcode _ _ X.warmed
  have h3 : (Cond.initialized y.cls).before a A.U = true := hinit _ _ X.warmed
  have h4 : A.cells + (headSpec ws rm).room.cells ≤ R.cells := by rw [show (headSpec ws rm).room.cells = mc from hrc]; exact hp.1
  have h5 : A.slots + (headSpec ws rm).room.slots ≤ R.slots := by rw [show (headSpec ws rm).room.slots = ms from hrs]; exact hp.2.1
  have hPc : Pc a (A.U.calling g mk a) := hblind _ _ _ _ hp.2.2
  obtain ⟨U, Ls, c0, s0⟩ := A
  dsimp only [Pt.U, Pt.locs, Pt.cells, Pt.slots] at h1 h2 h3 h4 h5 X hn hPc ⊢
  obtain ⟨methY, cY, hmY, hcY, -, hlY, -, -, -, -⟩ := Cond.code_spec hn h2
  obtain ⟨kY, hkY, -⟩ := className_of_methodNamed hn
  have hinitY : kY.init = .initialized := Cond.initialized_spec (findClass_of_methodNamed hn) hkY h3
  have h : At U g.method c below := by rw [hg]; exact X.here
  have hlocals9 : W9 + (maxL + 11) + (headSpec ws rm).room.locals ≤ R.locals := hlocals
  have happ : (headSpec ws rm).appliesLoose y e.platform (U.calling g mk a) = true :=
    Spec.appliesLoose_calling (g := g) h hdg hn hkY hinitY
      (X.room_calling (g := g) (R' := (headSpec ws rm).room) hsize hmY hcY hframes (by rw [hlY]; omega) h4 h5) h1
  obtain ⟨mid, hmid⟩ := h.above
  have hfr : (U.setTop g).frames = (.java g :: mid) ++ below := by rw [State.frames_setTop' g h.top, hmid]; rfl
  obtain ⟨o, s₂, hsteps, -, hend, hq⟩ := Steps.callFree hM p X.admits X.cas X.clock (acts := []) hfr happ hPc trivial
  have hq' : vx_Q Qc XC mc ms free a (U.calling g mk a) o s₂ := hq
  rw [State.frames_setTop' g h.top] at hend
  obtain ⟨g₀, hg0⟩ := Option.isSome_iff_exists.mp h.top
  obtain ⟨r, hr⟩ := State.topJava?_eq_some.mp hg0
  have hr' : (({ U with heap := s₂.heap, slotsUsed := s₂.slotsUsed } : State).setVm s₂.vm).frames = .java g₀ :: r := hr
  rcases hq' with ⟨hqc, L, hfe, hL⟩ | ⟨q, rfl, E, ce, L, hx, hce, hcv, hcl, hW₂, hsm, hL⟩
  · obtain ⟨⟨v, rfl⟩, hW₂, e2, q2, q3, q4, q5, q6⟩ := id hfe
    have e3 : s₂ = ({ (U.calling g mk a).setFrames s₂.frames with heap := s₂.heap, slotsUsed := s₂.slotsUsed } : State).setVm s₂.vm := by
      have : s₂ = ({ s₂ with vm := (U.calling g mk a).vm } : State).setVm s₂.vm := rfl
      rw [e2] at this
      exact this
    obtain ⟨c₂, i₂, len₂, hc₂, hd₂, hf₂⟩ := hend
    have hW' : U.WarmedH s₂.vm := hW₂
    have hcc : c₂ = c := by
      have h1 : s₂.code? g.method = U.code? g.method := by
        rw [State.code?_eq, State.code?_eq, hW'.alike.method?]
      exact Option.some.inj (hc₂.symm.trans (h1.trans h.code))
    subst hcc
    have hlen : len₂ = len := by rw [hdg] at hd₂; cases hd₂; rfl
    subst hlen
    have hs₂ : s₂ = (({ U with heap := s₂.heap, slotsUsed := s₂.slotsUsed } : State).setVm s₂.vm).setTop { g with pc := g.pc + len₂, stack := v.toList ++ g.stack } := by
      refine e3.trans ?_
      rw [hf₂, State.calling_eq h.top, State.setFrames_setFrames, State.setTop_of_frames _ hr', hr]
      rfl
    have hsame : U.sameButNew ({ U with heap := s₂.heap, slotsUsed := s₂.slotsUsed } : State) L mc ms := by
      refine ⟨?_, q2, q3, q4, q5, q6⟩
      obtain ⟨t, ht, -⟩ := State.frames_cons hr
      show ({ U with heap := s₂.heap, slotsUsed := s₂.slotsUsed } : State) = { U.setFrames U.frames with heap := s₂.heap, slotsUsed := s₂.slotsUsed }
      rw [State.setFrames_self ht]
    subst hg
    refine Or.inl ⟨v, ⟨(({ U with heap := s₂.heap, slotsUsed := s₂.slotsUsed } : State).setVm s₂.vm), Ls ++ L, c0 + mc, s0 + ms⟩,
      ⟨X.admits, X.cas, X.clock, X.frames, X.room, X.hears, X.method, X.code, (X.here.setHeapUsed s₂.heap s₂.slotsUsed).setVm hW'.alike, X.tail, State.WarmedH.trans X.warmed hW', X.limits, X.bytes, X.same.trans (hsame.setVm s.vm)⟩,
      ⟨g, mk, s₂, L, rfl, rfl, hqc, rfl, hL, rfl, rfl⟩, ?_⟩
    show Steps p.tables e below _ ((({ U with heap := s₂.heap, slotsUsed := s₂.slotsUsed } : State).setVm s₂.vm).setTop { g with pc := g.pc + len₂, stack := v.toList ++ g.stack })
    rw [← hs₂]
    exact hsteps
  · obtain ⟨e2, q2, q3, q4, q5, q6⟩ := id hsm
    have e3 : s₂ = ({ (U.calling g mk a).setFrames s₂.frames with heap := s₂.heap, slotsUsed := s₂.slotsUsed } : State).setVm s₂.vm := by
      have : s₂ = ({ s₂ with vm := (U.calling g mk a).vm } : State).setVm s₂.vm := rfl
      rw [e2] at this
      exact this
    have hf₂ : s₂.frames = .throwing q :: .java g :: U.frames.tail := hend
    have hW' : U.WarmedH s₂.vm := hW₂
    have hs₂ : s₂ = ((({ U with heap := s₂.heap, slotsUsed := s₂.slotsUsed } : State).setVm s₂.vm).setTop g).pushFrame (.throwing q) := by
      refine e3.trans ?_
      rw [hf₂, State.calling_eq h.top, State.setFrames_setFrames, State.pushFrame, State.frames_setTop _ hr', State.setTop_of_frames _ hr', State.setFrames_setFrames, hr]
      rfl
    have hsame : U.sameButNew ({ U with heap := s₂.heap, slotsUsed := s₂.slotsUsed } : State) L mc ms := by
      refine ⟨?_, q2, q3, q4, q5, q6⟩
      obtain ⟨t, ht, -⟩ := State.frames_cons hr
      show ({ U with heap := s₂.heap, slotsUsed := s₂.slotsUsed } : State) = { U.setFrames U.frames with heap := s₂.heap, slotsUsed := s₂.slotsUsed }
      rw [State.setFrames_self ht]
    subst hg
    refine Or.inr ⟨q, ⟨(({ U with heap := s₂.heap, slotsUsed := s₂.slotsUsed } : State).setVm s₂.vm), Ls ++ L, c0 + mc, s0 + ms⟩,
      ⟨X.admits, X.cas, X.clock, X.frames, X.room, X.hears, X.method, X.code, (X.here.setHeapUsed s₂.heap s₂.slotsUsed).setVm hW'.alike, X.tail, State.WarmedH.trans X.warmed hW', X.limits, X.bytes, X.same.trans (hsame.setVm s.vm)⟩,
      ⟨g, mk, s₂, L, E, ce, rfl, rfl, hx, hce, hcv, hcl, rfl, hL, rfl, rfl⟩, ?_⟩
    show Steps p.tables e below _ (((({ U with heap := s₂.heap, slotsUsed := s₂.slotsUsed } : State).setVm s₂.vm).setTop g).pushFrame (.throwing q))
    rw [← hs₂]
    exact hsteps
end Payer
section Calls
variable {p : Program} {l : Launch} {e : Env} {R : Room} {s : State} {m : MethodId} {args : Array Value} {below : List Frame} {meth : Method} {c : Code} {T : State} {locs : List Loc} {cells slots : Nat}
theorem vx_callV (X : Stand p l e R s m args below meth c T locs cells slots) (hexec : p.tables.exec = Jvm.exec) {own C : String} {index : Nat} {y : MethodName} {bytes : ByteArray} {maxL : Nat} {ret : Option FieldType}
    (hown : s.vm.findClass own = some m.cls) (hlink : (Cond.methodLink own index y).before args s = true) (hinst : (Cond.instanceMethod y).before args s = true) (hsel : (Cond.selects C y y).before args s = true)
    (hcode : (Cond.code y bytes maxL ret).before args s = true) (hy : y.cls ≠ "java/lang/invoke/MethodHandle" ∧ y.cls ≠ "java/lang/invoke/VarHandle")
    {W9 : Nat} {Pre : Pt → Array Value → Prop} {Post : Pt → Array Value → Option Value → Pt → Prop} {PostX : Pt → Array Value → Addr → Pt → Prop} (hK : vx_Back l R p e below s args y 3 W9 Pre Post PostX)
    {b : Addr} {cellB : Cell} (hcell : T.heap[b]? = some cellB) (hobj : cellB.vm.isStatics = false) (hcls : s.vm.findClass C = some cellB.cls)
    {g : JFrame} (hg : g.method = m) (hsize : g.locals.size = c.maxLocals) {argsL rest : List Value} (hlen : ∀ sig, parseMethodDescriptor y.desc = some sig → argsL.length = sig.parameters.length)
    (hstack : g.stack = argsL.reverse ++ .ref b :: rest) (hW : 2 * g.monitorRoom + (rest.map fun v => v.category).sum ≤ W9) (hdg : decode c.code g.pc = .ok (.invokevirtual index, 3))
    (hpre : ∀ vm₁, s.WarmedH vm₁ → Pre ⟨T.setVm vm₁, locs, cells, slots⟩ (Value.ref b :: argsL).toArray) :
    (∃ (v : Option Value) (vm₁ : Vm) (B : Pt), s.WarmedH vm₁ ∧ Stand p l e R s m args below meth c B.U B.locs B.cells B.slots ∧ Post ⟨T.setVm vm₁, locs, cells, slots⟩ (Value.ref b :: argsL).toArray v B ∧
      ∀ target, Steps p.tables e below (B.U.setTop { g with pc := g.pc + 3, stack := v.toList ++ rest }) target → Steps p.tables e below (T.setTop g) target) ∨
    (∃ (q : Addr) (vm₁ : Vm) (B : Pt), s.WarmedH vm₁ ∧ Stand p l e R s m args below meth c B.U B.locs B.cells B.slots ∧ PostX ⟨T.setVm vm₁, locs, cells, slots⟩ (Value.ref b :: argsL).toArray q B ∧
      Steps p.tables e below (T.setTop g) ((B.U.setTop { g with stack := rest }).pushFrame (.throwing q))) := by
  obtain ⟨mk, methM, hnamed, hmethM, hstM, habM⟩ := Cond.instanceMethod_spec hinst
  obtain ⟨methM', cM, hmethM', -, -, -, -, -, -, hsigM⟩ := Cond.code_spec hnamed hcode
  cases hmethM.symm.trans hmethM'
  obtain ⟨c2, r2, m2, q1, q2, q3, q4, kP, hkP, hkPi⟩ := Cond.selects_spec hsel
  cases hcls.symm.trans q1
  cases (State.methodFound?_of_named hnamed hy).symm.trans q2
  cases hnamed.symm.trans q3
  have hselP : selectMethod e.platform s.vm cellB.cls mk = .method mk := by rw [Launch.admits_selectMethod X.admits]; exact q4
  obtain ⟨vm₁, X₁, hstep₁⟩ := X.invokevirtual hexec hown hlink hnamed hmethM hstM hkP hkPi hy (a := b) (cell := cellB) hcell
    (fun z h => by rw [h] at hobj; cases hobj) hselP hmethM habM hkP hkPi (g := g) hg (argsL := argsL) (rest := rest) (hlen _ hsigM) hstack hdg
  rcases hK m meth c ⟨T.setVm vm₁, locs, cells, slots⟩ { g with stack := rest } (.invokevirtual index) mk (Value.ref b :: argsL).toArray X₁ hg hsize hdg hW (X₁.named hnamed) (hpre vm₁ X₁.warmed) with ⟨v, B, X', hpost, hsteps⟩ | ⟨q, B, X', hpost, hsteps⟩
  · exact Or.inl ⟨v, vm₁, B, X₁.warmed, X', hpost, fun target h => hstep₁ _ fun acts => by rw [doInvoke_state]; exact hsteps.trans h⟩
  · exact Or.inr ⟨q, vm₁, B, X₁.warmed, X', hpost, hstep₁ _ fun acts => by rw [doInvoke_state]; exact hsteps⟩
theorem vx_callS (X : Stand p l e R s m args below meth c T locs cells slots) (hexec : p.tables.exec = Jvm.exec) {own : String} {index : Nat} {y : MethodName} {bytes : ByteArray} {maxL : Nat} {ret : Option FieldType}
    (hown : s.vm.findClass own = some m.cls) (hlink : (Cond.methodLink own index y).before args s = true) (hstat : (Cond.static y).before args s = true) (hinit : (Cond.initialized y.cls).before args s = true)
    (hcode : (Cond.code y bytes maxL ret).before args s = true) (hy : y.cls ≠ "java/lang/invoke/MethodHandle" ∧ y.cls ≠ "java/lang/invoke/VarHandle")
    {W9 : Nat} {Pre : Pt → Array Value → Prop} {Post : Pt → Array Value → Option Value → Pt → Prop} {PostX : Pt → Array Value → Addr → Pt → Prop} (hK : vx_Back l R p e below s args y 3 W9 Pre Post PostX)
    {g : JFrame} (hg : g.method = m) (hsize : g.locals.size = c.maxLocals) {argsL rest : List Value} (hlen : ∀ sig, parseMethodDescriptor y.desc = some sig → argsL.length = sig.parameters.length)
    (hstack : g.stack = argsL.reverse ++ rest) (hW : 2 * g.monitorRoom + (rest.map fun v => v.category).sum ≤ W9) (hdg : decode c.code g.pc = .ok (.invokestatic index, 3))
    (hpre : ∀ vm₁, s.WarmedH vm₁ → Pre ⟨T.setVm vm₁, locs, cells, slots⟩ argsL.toArray) :
    (∃ (v : Option Value) (vm₁ : Vm) (B : Pt), s.WarmedH vm₁ ∧ Stand p l e R s m args below meth c B.U B.locs B.cells B.slots ∧ Post ⟨T.setVm vm₁, locs, cells, slots⟩ argsL.toArray v B ∧
      ∀ target, Steps p.tables e below (B.U.setTop { g with pc := g.pc + 3, stack := v.toList ++ rest }) target → Steps p.tables e below (T.setTop g) target) ∨
    (∃ (q : Addr) (vm₁ : Vm) (B : Pt), s.WarmedH vm₁ ∧ Stand p l e R s m args below meth c B.U B.locs B.cells B.slots ∧ PostX ⟨T.setVm vm₁, locs, cells, slots⟩ argsL.toArray q B ∧
      Steps p.tables e below (T.setTop g) ((B.U.setTop { g with stack := rest }).pushFrame (.throwing q))) := by
  obtain ⟨mk, hnamed⟩ := Cond.code_named hcode
  obtain ⟨methM, cM, hmethM, -, -, -, -, -, -, hsigM⟩ := Cond.code_spec hnamed hcode
  have hstatic : methM.isStatic = true := Cond.static_spec hnamed hmethM hstat
  obtain ⟨kP, hkP, -⟩ := className_of_methodNamed hnamed
  have hinitP : kP.init = .initialized := Cond.initialized_spec (findClass_of_methodNamed hnamed) hkP hinit
  obtain ⟨vm₁, X₁, hstep₁⟩ := X.invokestatic hexec hown hlink hnamed hmethM hstatic hkP hinitP hy (g := g) hg (argsL := argsL) (rest := rest) (hlen _ hsigM) hstack hdg
  rcases hK m meth c ⟨T.setVm vm₁, locs, cells, slots⟩ { g with stack := rest } (.invokestatic index) mk argsL.toArray X₁ hg hsize hdg hW (X₁.named hnamed) (hpre vm₁ X₁.warmed) with ⟨v, B, X', hpost, hsteps⟩ | ⟨q, B, X', hpost, hsteps⟩
  · exact Or.inl ⟨v, vm₁, B, X₁.warmed, X', hpost, fun target h => hstep₁ _ fun acts => by rw [doInvoke_state]; exact hsteps.trans h⟩
  · exact Or.inr ⟨q, vm₁, B, X₁.warmed, X', hpost, hstep₁ _ fun acts => by rw [doInvoke_state]; exact hsteps⟩
end Calls
theorem vx_cls {s : State} {T : State} {vm₁ : Vm} {E : String} {k : ClassId} (hW : s.WarmedH vm₁) (h : (T.setVm vm₁).vm.findClass E = some k) : s.vm.findClass E = some k := by
  have h1 : vm₁.findClass E = some k := h
  rw [hW.alike.findClass] at h1
  exact h1
/-- the method's frame g, with q thrown over it -/
def vx_W (p : Program) (l : Launch) (e : Env) (R : Room) (s : State) (m : MethodId) (args : Array Value) (below : List Frame) (meth : Method) (c : Code) (H : Heap) (locs : List Loc) (cells slots : Nat) (Q : State → Prop) (g : JFrame) (q : Addr) : Prop :=
  ∀ T : State, T.heap = H → Stand p l e R s m args below meth c T locs cells slots → ∃ t, Steps p.tables e below ((T.setTop g).pushFrame (.throwing q)) t ∧ Q t
def vx_Run (p : Program) (l : Launch) (e : Env) (R : Room) (s : State) (m : MethodId) (args : Array Value) (below : List Frame) (meth : Method) (c : Code) (H : Heap) (locs : List Loc) (cells slots mc ms : Nat) (g : JFrame) (rest : List Value) (Qa : State → Outcome → State → Prop) (XC : String → State → State → Prop) (free : Addr → Prop) : Prop :=
  ∀ T : State, T.heap = H → Stand p l e R s m args below meth c T locs cells slots →
    (∃ (v : Option Value) (st₀ t T' : State) (L : List Loc), st₀.heap = H ∧ Stand p l e R s m args below meth c T' (locs ++ L) (cells + mc) (slots + ms) ∧ (∀ q ∈ L, free q.base) ∧ T'.heap = t.heap ∧ T'.vm = t.vm ∧ Qa st₀ (.returned v) t ∧
      Goes p e below T g T' { g with pc := g.pc + 3, stack := v.toList ++ rest }) ∨
    (∃ (q : Addr) (st₀ t T' : State) (L : List Loc) (E : String) (ce : Cell), st₀.heap = H ∧ Stand p l e R s m args below meth c T' (locs ++ L) (cells + mc) (slots + ms) ∧ (∀ z ∈ L, free z.base) ∧ T'.heap = t.heap ∧ T'.vm = t.vm ∧ XC E st₀ t ∧ t.heap[q]? = some ce ∧ ce.vm = .none ∧ s.vm.findClass E = some ce.cls ∧
      Steps p.tables e below (T.setTop g) ((T'.setTop { g with stack := rest }).pushFrame (.throwing q)))
def vx_X {S : Type} (px : S → Prop) (B : String → S → State → Prop) (A : Nat → Prop) : String → State → State → Prop := fun E st t => ∃ u : S, px u ∧ B E u t ∧ va_F A st t
section Runs
variable {p : Program} {l : Launch} {e : Env} {R : Room} {s : State} {m : MethodId} {args : Array Value} {below : List Frame} {meth : Method} {c : Code} {H : Heap} {locs : List Loc} {cells slots : Nat}
variable {y : MethodName} {bytes cc : ByteArray} {maxL nL mc ms n index : Nat} {ret : Option FieldType} {ws : List Cond} {rm : Room} {Pc : Array Value → State → Prop} {Qc : Array Value → State → Outcome → State → Prop} {XC : String → State → State → Prop} {free : Addr → Prop} {Ts : List Cond} {own C : String} {b : Addr} {As rest : List Value} {g : JFrame}
theorem vx_callBack (cb : CallB R s args own index y bytes maxL ret ws rm mc ms n) (hM : vx_Met l y ws rm Pc Qc XC mc ms free) (hbl : FrameBlind Pc) : vx_Back l R p e below s args y 3 8 (PreOf R mc ms Pc) (PostOf Qc mc ms free) (vx_Post XC mc ms free) := by
  obtain ⟨hrc, hrs, hfr, hlo, hws, hcw, -, hini, -⟩ := cb
  exact vx_back (bytes := bytes) (maxL := maxL) (ret := ret) hM hbl hrc hrs hfr hlo hws hcw (fun a' U hW => word_at hW (Or.inl (by first | rfl | simp [Cond.onTables, Cond.keeps, Cond.steady])) hini)
theorem vx_runV (S : CallFix p m c cc nL s args Ts own) (hM : vx_Met l y ws rm Pc Qc XC mc ms free) (cw : CallW R s args own C index y bytes maxL ret ws rm mc ms n) (hp : PreV s H C b Pc As)
    (hg : g.method = m) (hn : As.length = n) (hsize : g.locals.size = nL) (hstack : g.stack = As.reverse ++ .ref b :: rest) (hW : 2 * g.monitorRoom + (rest.map fun v => v.category).sum ≤ 8) (hdg : decode cc g.pc = .ok (.invokevirtual index, 3)) (hf : cells + mc ≤ R.cells ∧ slots + ms ≤ R.slots) :
    vx_Run p l e R s m args below meth c H locs cells slots mc ms g rest (Qc (Value.ref b :: As).toArray) XC free := by
  have hK : vx_Back l R p e below s args y 3 8 (PreOf R mc ms Pc) (PostOf Qc mc ms free) (vx_Post XC mc ms free) := vx_callBack cw.1 hM hp.1
  obtain ⟨⟨-, -, -, -, -, -, hcode, -, hy, hlen, hl⟩, hin, hse⟩ := cw
  obtain ⟨hx, hb, hml, ho, -⟩ := S
  obtain ⟨-, ⟨cellB, hcB, hoB, hclB⟩, hPc⟩ := hp
  intro T hT X
  rcases vx_callV X hx (C := C) (bytes := bytes) (maxL := maxL) (ret := ret) ho hl hin hse hcode hy hK (by rw [hT]; exact hcB) hoB hclB hg (hsize.trans hml.symm) (argsL := As) (rest := rest) (fun sig h => hn.trans (hlen sig h)) hstack hW (by rw [hb]; exact hdg)
    (fun vm₁ hW₁ => ⟨hf.1, hf.2, hPc (T.setVm vm₁) hT hW₁⟩) with ⟨v, vm₁, ⟨U', l2, c2, s2⟩, hW₁, X', ⟨g', mk, t, L, e1, e2, hq, h1, hL, h2, h3⟩, st⟩ | ⟨q, vm₁, ⟨U', l2, c2, s2⟩, hW₁, X', ⟨g', mk, t, L, E, ce, e1, e2, hq, hce, hcv, hcl, h1, hL, h2, h3⟩, st⟩
  · dsimp only [Pt.U, Pt.locs, Pt.cells, Pt.slots] at X' e1 e2 h1 h2 h3 st
    subst h1; subst h2; subst h3
    exact Or.inl ⟨v, (T.setVm vm₁).calling g' mk (Value.ref b :: As).toArray, t, U', L, hT, X', hL, e1, e2, hq, st⟩
  · dsimp only [Pt.U, Pt.locs, Pt.cells, Pt.slots] at X' e1 e2 h1 h2 h3 st hcl
    subst h1; subst h2; subst h3
    exact Or.inr ⟨q, (T.setVm vm₁).calling g' mk (Value.ref b :: As).toArray, t, U', L, E, ce, hT, X', hL, e1, e2, hq, hce, hcv, vx_cls hW₁ hcl, st⟩
theorem vx_runS (S : CallFix p m c cc nL s args Ts own) (hM : vx_Met l y ws rm Pc Qc XC mc ms free) (cw : CallB R s args own index y bytes maxL ret ws rm mc ms n ∧ (Cond.static y).before args s = true) (hp : PreS s H Pc As)
    (hg : g.method = m) (hn : As.length = n) (hsize : g.locals.size = nL) (hstack : g.stack = As.reverse ++ rest) (hW : 2 * g.monitorRoom + (rest.map fun v => v.category).sum ≤ 8) (hdg : decode cc g.pc = .ok (.invokestatic index, 3)) (hf : cells + mc ≤ R.cells ∧ slots + ms ≤ R.slots) :
    vx_Run p l e R s m args below meth c H locs cells slots mc ms g rest (Qc As.toArray) XC free := by
  have hK : vx_Back l R p e below s args y 3 8 (PreOf R mc ms Pc) (PostOf Qc mc ms free) (vx_Post XC mc ms free) := vx_callBack cw.1 hM hp.1
  obtain ⟨⟨-, -, -, -, -, -, hcode, hini, hy, hlen, hl⟩, hstt⟩ := cw
  obtain ⟨hx, hb, hml, ho, -⟩ := S
  intro T hT X
  rcases vx_callS X hx (bytes := bytes) (maxL := maxL) (ret := ret) ho hl hstt hini hcode hy hK hg (hsize.trans hml.symm) (argsL := As) (rest := rest) (fun sig h => hn.trans (hlen sig h)) hstack hW (by rw [hb]; exact hdg)
    (fun vm₁ hW₁ => ⟨hf.1, hf.2, hp.2 (T.setVm vm₁) hT hW₁⟩) with ⟨v, vm₁, ⟨U', l2, c2, s2⟩, hW₁, X', ⟨g', mk, t, L, e1, e2, hq, h1, hL, h2, h3⟩, st⟩ | ⟨q, vm₁, ⟨U', l2, c2, s2⟩, hW₁, X', ⟨g', mk, t, L, E, ce, e1, e2, hq, hce, hcv, hcl, h1, hL, h2, h3⟩, st⟩
  · dsimp only [Pt.U, Pt.locs, Pt.cells, Pt.slots] at X' e1 e2 h1 h2 h3 st
    subst h1; subst h2; subst h3
    exact Or.inl ⟨v, (T.setVm vm₁).calling g' mk As.toArray, t, U', L, hT, X', hL, e1, e2, hq, st⟩
  · dsimp only [Pt.U, Pt.locs, Pt.cells, Pt.slots] at X' e1 e2 h1 h2 h3 st hcl
    subst h1; subst h2; subst h3
    exact Or.inr ⟨q, (T.setVm vm₁).calling g' mk As.toArray, t, U', L, E, ce, hT, X', hL, e1, e2, hq, hce, hcv, vx_cls hW₁ hcl, st⟩
end Runs
section Rows
variable {p : Program} {l : Launch} {e : Env} {R : Room} {s : State} {m : MethodId} {args : Array Value} {below : List Frame} {meth : Method} {c : Code} {H : Heap} {locs : List Loc} {cells slots : Nat} {Q : State → Prop}
variable {mc ms : Nat} {free : Addr → Prop} {A0 A1 : Nat → Prop} {H0 : Heap} {a : Array Value} {pc : Nat} {ls : Array Slot} {st0 rest : List Value}
theorem vx_keep {st₀ t T' : State} {L : List Loc} (h0 : st₀.heap = H) (e1 : T'.heap = t.heap) (hS : va_S A0 H0 H locs) (hA : ∀ q, q < H.size → A1 q → A0 q) (hf : ∀ q, free q → A0 q) (hL : ∀ q ∈ L, free q.base) (hF : va_F A1 st₀ t) :
    H.size ≤ T'.heap.size ∧ (∀ q : Nat, q < H.size → ¬ A1 q → T'.heap[q]? = H[q]?) ∧ va_S A0 H0 T'.heap (locs ++ L) := by
  obtain ⟨hz, hk⟩ := hF
  rw [h0] at hz hk
  exact ⟨by rw [e1]; exact hz, fun q h1 h2 => by rw [e1]; exact hk q h1 h2,
    ⟨Nat.le_trans hS.1 (by rw [e1]; exact hz), fun q h1 h2 => by rw [e1, hk q (Nat.lt_of_lt_of_le h1 hS.1) (fun z => h2 (hA q (Nat.lt_of_lt_of_le h1 hS.1) z))]; exact hS.2.1 q h1 h2, fun q hq => by
      rcases List.mem_append.mp hq with h | h
      · exact hS.2.2 q h
      · exact hf _ (hL q h)⟩⟩
theorem vx_calli {S SX : Type} {post : Int32 → S → Prop} {px : SX → Prop} {B : S → State → Prop} {BX : String → SX → State → Prop} {AX : Nat → Prop} (hr : vx_Run p l e R s m args below meth c H locs cells slots mc ms (F0 m pc ls st0) rest (va_Qi post B A1 a) (vx_X px BX AX) free) (hS : va_S A0 H0 H locs) (hA : ∀ q, q < H.size → A1 q → A0 q) (hf : ∀ q, free q → A0 q) (hAX : ∀ q, q < H.size → AX q → A0 q)
    (kx : ∀ (E : String) (ce : Cell) (q9 : Addr) (u : SX) (t : State) (H1 : Heap) (locs1 : List Loc), t.heap = H1 → s.vm.Alike t.vm → px u → BX E u t → H.size ≤ H1.size → (∀ q : Nat, q < H.size → ¬ AX q → H1[q]? = H[q]?) → va_S A0 H0 H1 locs1 → H1[q9]? = some ce → ce.vm = .none → s.vm.findClass E = some ce.cls → vx_W p l e R s m args below meth c H1 locs1 (cells + mc) (slots + ms) Q (F0 m pc ls rest) q9)
    (kk : ∀ (r : Int32) (u : S) (t : State) (H1 : Heap) (locs1 : List Loc), t.heap = H1 → s.vm.Alike t.vm → post r u → B u t → H.size ≤ H1.size → (∀ q : Nat, q < H.size → ¬ A1 q → H1[q]? = H[q]?) → va_S A0 H0 H1 locs1 → W p l e R s m args below meth c H1 locs1 (cells + mc) (slots + ms) Q (F0 m (pc + 3) ls (.int r :: rest))) : W p l e R s m args below meth c H locs cells slots Q (F0 m pc ls st0) := by
  intro T hT X
  rcases hr T hT X with ⟨v, st₀, t, T', L, h0, X', hL, e1, e2, ⟨⟨r, u, hv, hp, hb⟩, hF⟩, st⟩ | ⟨q, st₀, t, T', L, E, ce, h0, X', hL, e1, e2, ⟨u, hp, hb, hF⟩, hce, hcv, hcl, st⟩
  · cases hv
    obtain ⟨k1, k2, k3⟩ := vx_keep h0 e1 hS hA hf hL hF
    obtain ⟨t2, a1, b1⟩ := kk r u t T'.heap (locs ++ L) e1.symm (by rw [← e2]; exact X'.warmed.alike) hp hb k1 k2 k3 T' rfl X'
    exact ⟨t2, st t2 a1, b1⟩
  · obtain ⟨k1, k2, k3⟩ := vx_keep h0 e1 hS hAX hf hL hF
    obtain ⟨t2, a1, b1⟩ := kx E ce q u t T'.heap (locs ++ L) e1.symm (by rw [← e2]; exact X'.warmed.alike) hp hb k1 k2 k3 (by rw [e1]; exact hce) hcv hcl T' rfl X'
    exact ⟨t2, st.trans a1, b1⟩
theorem vx_calll {S SX : Type} {post : Int64 → S → Prop} {px : SX → Prop} {B : S → State → Prop} {BX : String → SX → State → Prop} {AX : Nat → Prop} (hr : vx_Run p l e R s m args below meth c H locs cells slots mc ms (F0 m pc ls st0) rest (va_Ql post B A1 a) (vx_X px BX AX) free) (hS : va_S A0 H0 H locs) (hA : ∀ q, q < H.size → A1 q → A0 q) (hf : ∀ q, free q → A0 q) (hAX : ∀ q, q < H.size → AX q → A0 q)
    (kx : ∀ (E : String) (ce : Cell) (q9 : Addr) (u : SX) (t : State) (H1 : Heap) (locs1 : List Loc), t.heap = H1 → s.vm.Alike t.vm → px u → BX E u t → H.size ≤ H1.size → (∀ q : Nat, q < H.size → ¬ AX q → H1[q]? = H[q]?) → va_S A0 H0 H1 locs1 → H1[q9]? = some ce → ce.vm = .none → s.vm.findClass E = some ce.cls → vx_W p l e R s m args below meth c H1 locs1 (cells + mc) (slots + ms) Q (F0 m pc ls rest) q9)
    (kk : ∀ (r : Int64) (u : S) (t : State) (H1 : Heap) (locs1 : List Loc), t.heap = H1 → s.vm.Alike t.vm → post r u → B u t → H.size ≤ H1.size → (∀ q : Nat, q < H.size → ¬ A1 q → H1[q]? = H[q]?) → va_S A0 H0 H1 locs1 → W p l e R s m args below meth c H1 locs1 (cells + mc) (slots + ms) Q (F0 m (pc + 3) ls (.long r :: rest))) : W p l e R s m args below meth c H locs cells slots Q (F0 m pc ls st0) := by
  intro T hT X
  rcases hr T hT X with ⟨v, st₀, t, T', L, h0, X', hL, e1, e2, ⟨⟨r, u, hv, hp, hb⟩, hF⟩, st⟩ | ⟨q, st₀, t, T', L, E, ce, h0, X', hL, e1, e2, ⟨u, hp, hb, hF⟩, hce, hcv, hcl, st⟩
  · cases hv
    obtain ⟨k1, k2, k3⟩ := vx_keep h0 e1 hS hA hf hL hF
    obtain ⟨t2, a1, b1⟩ := kk r u t T'.heap (locs ++ L) e1.symm (by rw [← e2]; exact X'.warmed.alike) hp hb k1 k2 k3 T' rfl X'
    exact ⟨t2, st t2 a1, b1⟩
  · obtain ⟨k1, k2, k3⟩ := vx_keep h0 e1 hS hAX hf hL hF
    obtain ⟨t2, a1, b1⟩ := kx E ce q u t T'.heap (locs ++ L) e1.symm (by rw [← e2]; exact X'.warmed.alike) hp hb k1 k2 k3 (by rw [e1]; exact hce) hcv hcl T' rfl X'
    exact ⟨t2, st.trans a1, b1⟩
theorem vx_callf {S SX : Type} {post : UInt32 → S → Prop} {px : SX → Prop} {B : S → State → Prop} {BX : String → SX → State → Prop} {AX : Nat → Prop} (hr : vx_Run p l e R s m args below meth c H locs cells slots mc ms (F0 m pc ls st0) rest (va_Qf post B A1 a) (vx_X px BX AX) free) (hS : va_S A0 H0 H locs) (hA : ∀ q, q < H.size → A1 q → A0 q) (hf : ∀ q, free q → A0 q) (hAX : ∀ q, q < H.size → AX q → A0 q)
    (kx : ∀ (E : String) (ce : Cell) (q9 : Addr) (u : SX) (t : State) (H1 : Heap) (locs1 : List Loc), t.heap = H1 → s.vm.Alike t.vm → px u → BX E u t → H.size ≤ H1.size → (∀ q : Nat, q < H.size → ¬ AX q → H1[q]? = H[q]?) → va_S A0 H0 H1 locs1 → H1[q9]? = some ce → ce.vm = .none → s.vm.findClass E = some ce.cls → vx_W p l e R s m args below meth c H1 locs1 (cells + mc) (slots + ms) Q (F0 m pc ls rest) q9)
    (kk : ∀ (r : UInt32) (u : S) (t : State) (H1 : Heap) (locs1 : List Loc), t.heap = H1 → s.vm.Alike t.vm → post r u → B u t → H.size ≤ H1.size → (∀ q : Nat, q < H.size → ¬ A1 q → H1[q]? = H[q]?) → va_S A0 H0 H1 locs1 → W p l e R s m args below meth c H1 locs1 (cells + mc) (slots + ms) Q (F0 m (pc + 3) ls (.float r :: rest))) : W p l e R s m args below meth c H locs cells slots Q (F0 m pc ls st0) := by
  intro T hT X
  rcases hr T hT X with ⟨v, st₀, t, T', L, h0, X', hL, e1, e2, ⟨⟨r, u, hv, hp, hb⟩, hF⟩, st⟩ | ⟨q, st₀, t, T', L, E, ce, h0, X', hL, e1, e2, ⟨u, hp, hb, hF⟩, hce, hcv, hcl, st⟩
  · cases hv
    obtain ⟨k1, k2, k3⟩ := vx_keep h0 e1 hS hA hf hL hF
    obtain ⟨t2, a1, b1⟩ := kk r u t T'.heap (locs ++ L) e1.symm (by rw [← e2]; exact X'.warmed.alike) hp hb k1 k2 k3 T' rfl X'
    exact ⟨t2, st t2 a1, b1⟩
  · obtain ⟨k1, k2, k3⟩ := vx_keep h0 e1 hS hAX hf hL hF
    obtain ⟨t2, a1, b1⟩ := kx E ce q u t T'.heap (locs ++ L) e1.symm (by rw [← e2]; exact X'.warmed.alike) hp hb k1 k2 k3 (by rw [e1]; exact hce) hcv hcl T' rfl X'
    exact ⟨t2, st.trans a1, b1⟩
theorem vx_calld {S SX : Type} {post : UInt64 → S → Prop} {px : SX → Prop} {B : S → State → Prop} {BX : String → SX → State → Prop} {AX : Nat → Prop} (hr : vx_Run p l e R s m args below meth c H locs cells slots mc ms (F0 m pc ls st0) rest (va_Qd post B A1 a) (vx_X px BX AX) free) (hS : va_S A0 H0 H locs) (hA : ∀ q, q < H.size → A1 q → A0 q) (hf : ∀ q, free q → A0 q) (hAX : ∀ q, q < H.size → AX q → A0 q)
    (kx : ∀ (E : String) (ce : Cell) (q9 : Addr) (u : SX) (t : State) (H1 : Heap) (locs1 : List Loc), t.heap = H1 → s.vm.Alike t.vm → px u → BX E u t → H.size ≤ H1.size → (∀ q : Nat, q < H.size → ¬ AX q → H1[q]? = H[q]?) → va_S A0 H0 H1 locs1 → H1[q9]? = some ce → ce.vm = .none → s.vm.findClass E = some ce.cls → vx_W p l e R s m args below meth c H1 locs1 (cells + mc) (slots + ms) Q (F0 m pc ls rest) q9)
    (kk : ∀ (r : UInt64) (u : S) (t : State) (H1 : Heap) (locs1 : List Loc), t.heap = H1 → s.vm.Alike t.vm → post r u → B u t → H.size ≤ H1.size → (∀ q : Nat, q < H.size → ¬ A1 q → H1[q]? = H[q]?) → va_S A0 H0 H1 locs1 → W p l e R s m args below meth c H1 locs1 (cells + mc) (slots + ms) Q (F0 m (pc + 3) ls (.double r :: rest))) : W p l e R s m args below meth c H locs cells slots Q (F0 m pc ls st0) := by
  intro T hT X
  rcases hr T hT X with ⟨v, st₀, t, T', L, h0, X', hL, e1, e2, ⟨⟨r, u, hv, hp, hb⟩, hF⟩, st⟩ | ⟨q, st₀, t, T', L, E, ce, h0, X', hL, e1, e2, ⟨u, hp, hb, hF⟩, hce, hcv, hcl, st⟩
  · cases hv
    obtain ⟨k1, k2, k3⟩ := vx_keep h0 e1 hS hA hf hL hF
    obtain ⟨t2, a1, b1⟩ := kk r u t T'.heap (locs ++ L) e1.symm (by rw [← e2]; exact X'.warmed.alike) hp hb k1 k2 k3 T' rfl X'
    exact ⟨t2, st t2 a1, b1⟩
  · obtain ⟨k1, k2, k3⟩ := vx_keep h0 e1 hS hAX hf hL hF
    obtain ⟨t2, a1, b1⟩ := kx E ce q u t T'.heap (locs ++ L) e1.symm (by rw [← e2]; exact X'.warmed.alike) hp hb k1 k2 k3 (by rw [e1]; exact hce) hcv hcl T' rfl X'
    exact ⟨t2, st.trans a1, b1⟩
theorem vx_callv {S SX : Type} {post : S → Prop} {px : SX → Prop} {B : S → State → Prop} {BX : String → SX → State → Prop} {AX : Nat → Prop} (hr : vx_Run p l e R s m args below meth c H locs cells slots mc ms (F0 m pc ls st0) rest (va_Qv post B A1 a) (vx_X px BX AX) free) (hS : va_S A0 H0 H locs) (hA : ∀ q, q < H.size → A1 q → A0 q) (hf : ∀ q, free q → A0 q) (hAX : ∀ q, q < H.size → AX q → A0 q)
    (kx : ∀ (E : String) (ce : Cell) (q9 : Addr) (u : SX) (t : State) (H1 : Heap) (locs1 : List Loc), t.heap = H1 → s.vm.Alike t.vm → px u → BX E u t → H.size ≤ H1.size → (∀ q : Nat, q < H.size → ¬ AX q → H1[q]? = H[q]?) → va_S A0 H0 H1 locs1 → H1[q9]? = some ce → ce.vm = .none → s.vm.findClass E = some ce.cls → vx_W p l e R s m args below meth c H1 locs1 (cells + mc) (slots + ms) Q (F0 m pc ls rest) q9)
    (kk : ∀ (u : S) (t : State) (H1 : Heap) (locs1 : List Loc), t.heap = H1 → s.vm.Alike t.vm → post u → B u t → H.size ≤ H1.size → (∀ q : Nat, q < H.size → ¬ A1 q → H1[q]? = H[q]?) → va_S A0 H0 H1 locs1 → W p l e R s m args below meth c H1 locs1 (cells + mc) (slots + ms) Q (F0 m (pc + 3) ls (rest))) : W p l e R s m args below meth c H locs cells slots Q (F0 m pc ls st0) := by
  intro T hT X
  rcases hr T hT X with ⟨v, st₀, t, T', L, h0, X', hL, e1, e2, ⟨⟨u, hv, hp, hb⟩, hF⟩, st⟩ | ⟨q, st₀, t, T', L, E, ce, h0, X', hL, e1, e2, ⟨u, hp, hb, hF⟩, hce, hcv, hcl, st⟩
  · cases hv
    obtain ⟨k1, k2, k3⟩ := vx_keep h0 e1 hS hA hf hL hF
    obtain ⟨t2, a1, b1⟩ := kk u t T'.heap (locs ++ L) e1.symm (by rw [← e2]; exact X'.warmed.alike) hp hb k1 k2 k3 T' rfl X'
    exact ⟨t2, st t2 a1, b1⟩
  · obtain ⟨k1, k2, k3⟩ := vx_keep h0 e1 hS hAX hf hL hF
    obtain ⟨t2, a1, b1⟩ := kx E ce q u t T'.heap (locs ++ L) e1.symm (by rw [← e2]; exact X'.warmed.alike) hp hb k1 k2 k3 (by rw [e1]; exact hce) hcv hcl T' rfl X'
    exact ⟨t2, st.trans a1, b1⟩
/-- caught by the row x of this method's table; the rows ahead don't take it -/
theorem vx_catch {own name : String} {E : String} {ce : Cell} {q : Addr} (hown : s.vm.findClass own = some m.cls) (pre : List ExceptionTableEntry) (x : ExceptionTableEntry) (suf : List ExceptionTableEntry) (hsplit : c.exceptionTable.toList = pre ++ x :: suf)
    (hpass : ∀ z ∈ pre, covers z pc = false ∨ (z.catchType ≠ 0 ∧ ∃ nm : String, (Cond.classLink own z.catchType nm).before args s = true ∧ va_Nc E nm s)) (hx : covers x pc = true) (h0 : x.catchType ≠ 0)
    (hlink : (Cond.classLink own x.catchType name).before args s = true) (hcast : (Cond.castable E name).before args s = true) (hcell : H[q]? = some ce) (hv : ce.vm = .none) (hcl : s.vm.findClass E = some ce.cls)
    (kk : W p l e R s m args below meth c H locs cells slots Q (F0 m x.handlerPc ls [.ref q])) : vx_W p l e R s m args below meth c H locs cells slots Q (F0 m pc ls rest) q := by
  intro T hT X
  have hpl : e.platform.magicAccessors = ({} : Platform).magicAccessors := by rw [X.admits.platform]
  obtain ⟨c3, c4, hc3, hc4, hasg⟩ := Cond.castable_spec hcast
  cases Option.some.inj (hc3.symm.trans hcl)
  obtain ⟨c5, hc5, hcl5⟩ := Cond.classLink_spec hown hlink e.platform hpl
  cases Option.some.inj (hc4.symm.trans hc5)
  obtain ⟨vm', X', st⟩ := X.thenCaughtThrough q (g := F0 m pc ls rest) rfl (Steps.refl _) (by rw [hT]; exact hcell) (by rw [hv]; rfl) (by obtain ⟨k9, h9, -⟩ := Vm.findClass_spec hcl; exact ⟨k9, h9⟩) pre x suf hsplit
    (fun z hz => by
      rcases hpass z hz with h | ⟨hz0, nm, hl1, hn1⟩
      · exact Or.inl h
      · obtain ⟨c6, hc6, hcl6⟩ := Cond.classLink_spec hown hl1 e.platform hpl
        obtain ⟨a8, b8, h1, h2, h3⟩ := hn1
        cases Option.some.inj (h1.symm.trans hcl)
        cases Option.some.inj (h2.symm.trans hc6)
        exact Or.inr ⟨hz0, _, hcl6, h3⟩) hx (Or.inr ⟨h0, c4, hcl5, hasg⟩)
  obtain ⟨t, a1, b1⟩ := kk (T.setVm vm') hT X'
  exact ⟨t, st.trans a1, b1⟩
end Rows
section Ends
variable {p : Program} {l : Launch} {e : Env} {R : Room} {s : State} {m : MethodId} {args : Array Value} {below : List Frame} {meth : Method} {c : Code} {H : Heap} {locs : List Loc} {cells slots : Nat} {Q : State → Prop}
variable {mc ms : Nat} {free : Addr → Prop} {A0 A1 : Nat → Prop} {H0 : Heap} {a : Array Value} {ls : Array Slot} {st0 rest : List Value}
variable {Qc : Array Value → State → Outcome → State → Prop} {XC : String → State → State → Prop}
/-- what a body that may throw owes at its end -/
def vx_MQ (below : List Frame) (Qc : Array Value → State → Outcome → State → Prop) (XC : String → State → State → Prop) (a : Array Value) (s : State) (mc ms : Nat) (free : Addr → Prop) : State → Prop := fun t =>
  ∃ o, t.status = .running ∧ Ended t below o ∧ vx_Q Qc XC mc ms free a s o t
theorem vx_ret {g : JFrame} {mc ms : Nat} (k : W p l e R s m args below meth c H locs cells slots (MQ below Qc args s mc ms free) g) : W p l e R s m args below meth c H locs cells slots (vx_MQ below Qc XC args s mc ms free) g := by
  intro T hT X
  obtain ⟨t, a1, o, b1, b2, b3, b4⟩ := k T hT X
  exact ⟨t, a1, o, b1, b2, Or.inl ⟨b3, b4⟩⟩
/-- not caught here: it goes on to the caller -/
theorem vx_widen {g : JFrame} {q : Addr} {k n : Nat} (h1 : cells ≤ k) (h2 : slots ≤ n) (kk : vx_W p l e R s m args below meth c H locs k n Q g q) : vx_W p l e R s m args below meth c H locs cells slots Q g q := fun T hT X => kk T hT (stand_widen X h1 h2)
theorem vx_out {pc : Nat} {E : String} {ce : Cell} {q : Addr} {mc ms : Nat} (hout : ∀ x ∈ c.exceptionTable.toList, covers x pc = false) (hlocks : meth.locks = false) (hcell : H[q]? = some ce) (hv : ce.vm = .none) (hcl : s.vm.findClass E = some ce.cls)
    (hx : ∀ t : State, t.heap = H → s.vm.Alike t.vm → XC E s t) (hf : ∀ z ∈ locs, free z.base) (hc : cells ≤ mc) (hs : slots ≤ ms) :
    vx_W p l e R s m args below meth c H locs cells slots (vx_MQ below Qc XC args s mc ms free) (F0 m pc ls rest) q := by
  intro T hT X
  obtain ⟨st1, hrun, hend, hW, hsm⟩ := X.leaveThrown q (g := F0 m pc ls rest) rfl rfl rfl hout hlocks
  have hcell9 : (T.setFrames (.throwing q :: below)).heap[q]? = some ce := by
    show T.heap[q]? = some ce
    rw [hT]; exact hcell
  exact ⟨_, st1, .threw q, hrun, hend, Or.inr ⟨q, rfl, E, ce, locs, hx _ hT hW.alike, hcell9, hv, hcl, hW, hsm.mono hc hs, hf⟩⟩
theorem vx_frame {U : State} {k n : Nat} (h : s.sameButNew ({ U with vm := s.vm } : State) locs k n) : s.heap.size ≤ U.heap.size ∧ ∀ q : Nat, q < s.heap.size → (∀ z ∈ locs, z.base ≠ q) → U.heap[q]? = s.heap[q]? := by
  obtain ⟨-, h2, -, -, -, h6⟩ := h
  refine ⟨h2, fun q hq hz => ?_⟩
  obtain ⟨c9, e1, e2, e3, e4⟩ := h6 q _ (Array.getElem?_eq_getElem hq)
  have hs : c9.slots = (s.heap[q]).slots := Array.ext_getElem? fun i => e4 i fun hm => hz _ hm rfl
  have h9 : c9 = s.heap[q] := by
    rw [hs] at e2
    exact e2
  have e5 : U.heap[q]? = some c9 := e1
  rw [e5, h9, Array.getElem?_eq_getElem hq]
/-- the words of a throw but the four that speak of the heap -/
def vx_no (w : Cond) : Bool := decide (w ≠ .isRef (.static Bundle.tN "UNASSIGNED_STACK" Bundle.steD)) && decide (w ≠ .isRef (.static Bundle.tN "SUPPRESSED_SENTINEL" Bundle.listD)) && decide (w ≠ .laysStatic Bundle.tN "UNASSIGNED_STACK" Bundle.steD) && decide (w ≠ .laysStatic Bundle.tN "SUPPRESSED_SENTINEL" Bundle.listD)
def vx_at0 (own : String) (ic : Nat) (X : String) (names : List String) : List Cond := (Bundle.ownAtoms0 own ic X names).filter vx_no
def vx_atS (own : String) (ic : Nat) (X : String) (names : List String) : List Cond := (Bundle.ownAtoms own ic X names).filter vx_no
/-- a word that the tables alone decide, or a good one -/
def vx_ot (w : Cond) : Bool := w.onTables || goodWord w
theorem vx_ot_at {args a' : Array Value} {s U : State} {w : Cond} (hW : s.WarmedH U.vm) (hvm : s.vm = U.vm) (hg : vx_ot w = true) (h : w.before args s = true) : w.before a' U = true := by
  simp only [vx_ot, Bool.or_eq_true] at hg
  rcases hg with hg | hg
  · exact va_tabs hg hvm h
  · exact word_at hW (good_of_word hg) h
/-- a list's words: the good ones out of the method's own list, the others by premises of their own -/
theorem vx_hat {args : Array Value} {s : State} {L B : List Cond} (h1 : ∀ w ∈ L.filter goodWord, w.before args s = true) (h2 : ∀ w ∈ L.filter (fun w => !goodWord w), w ∈ B) (h3 : ∀ w ∈ B, w.before args s = true) : ∀ w ∈ L, w.before args s = true := by
  intro w hw
  by_cases g : goodWord w = true
  · exact h1 w (List.mem_filter.mpr ⟨hw, g⟩)
  · refine h3 w (h2 w (List.mem_filter.mpr ⟨hw, ?_⟩))
    show (!goodWord w) = true
    cases hgw : goodWord w
    · rfl
    · exact absurd hgw g
theorem vx_c {args : Array Value} {s : State} {w : Cond} {B : List Cond} (h : w.before args s = true) (t : ∀ w ∈ B, w.before args s = true) : ∀ w' ∈ w :: B, w'.before args s = true := fun w' h' => (List.mem_cons.mp h').elim (fun e => by rw [e]; exact h) (t w')
theorem vx_n {args : Array Value} {s : State} : ∀ w ∈ ([] : List Cond), w.before args s = true := fun _ h => nomatch h
theorem vx_own {args : Array Value} {s : State} {L : List Cond} (h1 : ∀ w ∈ L.filter vx_no, w.before args s = true)
    (hU : (Cond.isRef (.static Bundle.tN "UNASSIGNED_STACK" Bundle.steD)).before args s = true) (hN : (Cond.isRef (.static Bundle.tN "SUPPRESSED_SENTINEL" Bundle.listD)).before args s = true)
    (lU : (Cond.laysStatic Bundle.tN "UNASSIGNED_STACK" Bundle.steD).before args s = true) (lN : (Cond.laysStatic Bundle.tN "SUPPRESSED_SENTINEL" Bundle.listD).before args s = true) : ∀ w ∈ L, w.before args s = true := by
  intro w hw
  by_cases e1 : w = .isRef (.static Bundle.tN "UNASSIGNED_STACK" Bundle.steD)
  · rw [e1]; exact hU
  · by_cases e2 : w = .isRef (.static Bundle.tN "SUPPRESSED_SENTINEL" Bundle.listD)
    · rw [e2]; exact hN
    · by_cases e3 : w = .laysStatic Bundle.tN "UNASSIGNED_STACK" Bundle.steD
      · rw [e3]; exact lU
      · by_cases e4 : w = .laysStatic Bundle.tN "SUPPRESSED_SENTINEL" Bundle.listD
        · rw [e4]; exact lN
        · exact h1 w (List.mem_filter.mpr ⟨hw, by unfold vx_no; rw [decide_eq_true e1, decide_eq_true e2, decide_eq_true e3, decide_eq_true e4]; rfl⟩)
/-- where a static field lies, its class's statics cell in H -/
def vx_L (C n d : String) (A : Nat → Prop) (U : State) (H : Heap) : Prop := ∃ (c : ClassId) (k : Class) (i : Nat) (f : Field) (a : Nat) (cell : Cell), U.vm.findClass C = some c ∧ U.fieldFound? C n d = some (c, k, i, f) ∧ f.isStatic = true ∧ k.statics = some a ∧ H[a]? = some cell ∧ cell.vm.isStatics = true ∧ cell.cls = c ∧ f.slot < cell.slots.size ∧ k.staticTypes[f.slot]? = some f.type ∧ ¬ A a
theorem vx_L.moved {C n d : String} {A : Nat → Prop} {u U : State} {H : Heap} (hvm : u.vm.Alike U.vm) (h : vx_L C n d A u H) : vx_L C n d A U H := by
  obtain ⟨c, k, i, f, a, cell, h1, h2, h3, h4, h5, h6, h7, h8, h9, h10⟩ := h
  obtain ⟨k', hi', he⟩ := State.fieldFound?_setVm hvm h2
  exact ⟨c, k', i, f, a, cell, by rw [hvm.findClass]; exact h1, hi', h3, by rw [he]; exact h4, h5, h6, h7, h8, by rw [he]; exact h9, h10⟩
theorem vx_L.kept {C n d : String} {A : Nat → Prop} {U : State} {H H1 : Heap} (h : vx_L C n d A U H) (hq : ∀ a : Nat, a < H.size → ¬ A a → H1[a]? = H[a]?) : vx_L C n d A U H1 := by
  obtain ⟨c, k, i, f, a, cell, h1, h2, h3, h4, h5, h6, h7, h8, h9, h10⟩ := h
  exact ⟨c, k, i, f, a, cell, h1, h2, h3, h4, by rw [hq a (Array.getElem?_eq_some_iff.mp h5).1 h10]; exact h5, h6, h7, h8, h9, h10⟩
theorem vx_L.narrow {C n d : String} {A B : Nat → Prop} {U : State} {H : Heap} (h : vx_L C n d A U H) (hAB : ∀ q, B q → A q) : vx_L C n d B U H := by
  obtain ⟨c, k, i, f, a, cell, h1, h2, h3, h4, h5, h6, h7, h8, h9, h10⟩ := h
  exact ⟨c, k, i, f, a, cell, h1, h2, h3, h4, h5, h6, h7, h8, h9, fun z => h10 (hAB _ z)⟩
theorem vx_L.word {C n d : String} {A : Nat → Prop} {s : State} {args : Array Value} (h : vx_L C n d A s s.heap) : (Cond.laysStatic C n d).before args s = true := by
  obtain ⟨c, k, i, f, a, cell, h1, h2, h3, h4, h5, h6, h7, h8, h9, -⟩ := h
  show (Cond.laysStatic C n d).holds args s none s [] = true
  exact Cond.laysStatic_of h1 h2 h3 h4 h5 h6 h7 h8 h9
/-- .. and what it holds: null or some reference -/
def vx_Zq (C n d : String) (A : Nat → Prop) (U : State) (H : Heap) : Prop := va_Zq C n d A U H ∧ vx_L C n d A U H
theorem vx_Zq.moved {C n d : String} {A : Nat → Prop} {u U : State} {H : Heap} (hvm : u.vm.Alike U.vm) (h : vx_Zq C n d A u H) : vx_Zq C n d A U H := ⟨va_Zq.moved hvm h.1, vx_L.moved hvm h.2⟩
theorem vx_Zq.kept {C n d : String} {A : Nat → Prop} {U : State} {H H1 : Heap} (h : vx_Zq C n d A U H) (hq : ∀ a : Nat, a < H.size → ¬ A a → H1[a]? = H[a]?) : vx_Zq C n d A U H1 := ⟨va_Zq.kept h.1 hq, vx_L.kept h.2 hq⟩
theorem vx_Zq.narrow {C n d : String} {A B : Nat → Prop} {U : State} {H : Heap} (h : vx_Zq C n d A U H) (hAB : ∀ q, B q → A q) : vx_Zq C n d B U H := ⟨va_Zq.narrow h.1 hAB, vx_L.narrow h.2 hAB⟩
theorem vx_Zqof {args : Array Value} {s : State} {C n d : String} {A : Nat → Prop} (hl : (Cond.laysStatic C n d).before args s = true) (hini : (Cond.initialized C).before args s = true) (h : (Cond.isRef (.static C n d)).before args s = true) (hA : ∀ a : Nat, a < s.heap.size → ¬ A a) : vx_Zq C n d A s s.heap := by
  refine ⟨va_Zqof hl hini h hA, ?_⟩
  obtain ⟨c, k, i, f, a, cell, h1, h2, h3, h4, h5, h6, h7, h8, h9⟩ := Cond.laysStatic_spec hl
  exact ⟨c, k, i, f, a, cell, h1, h2, h3, h4, h5, h6, h7, h8, h9, hA a (Array.getElem?_eq_some_iff.mp h5).1⟩
theorem vx_isRef {C n d : String} {v : Value} {A : Nat → Prop} {s : State} {args : Array Value} (h : va_Z C n d v A s s.heap) (hv : v.isRef = true) : (Cond.isRef (.static C n d)).before args s = true := by
  obtain ⟨cf, kf, fi, f, a, cell, h1, h2, h3, h4, h5, h6, h7, -⟩ := h
  have he : (Term.static C n d).eval args s none [] s = some v := by
    simp [Term.eval, State.fieldNamed?, h1, h2, h4, h5, h6, h7]
  simp only [Cond.before, Cond.holds, Cond.value, he]
  cases v <;> simp_all [Value.isRef]
theorem vx_isRefq {C n d : String} {A : Nat → Prop} {s : State} {args : Array Value} (h : va_Zq C n d A s s.heap) : (Cond.isRef (.static C n d)).before args s = true := by
  rcases h with h | ⟨t, h⟩
  · exact vx_isRef h rfl
  · exact vx_isRef h rfl
/-- the same frame, seen from here: as if the method were called anew in this heap -/
theorem vx_rebase {T : State} (X : Stand p l e R s m args below meth c T locs cells slots) {R' : Room} (hf : R'.frames ≤ R.frames) (hl : R'.locals ≤ R.locals) (hc : cells + R'.cells ≤ R.cells) (hs : slots + R'.slots ≤ R.slots) :
    Stand p l e R' ((T.setVm s.vm).setFrames (.invoking m args :: below)) m args below meth c T [] 0 0 := by
  have htop : (T.setVm s.vm).topJava?.isSome := X.here.top
  have hF : ((T.setVm s.vm).setFrames (.invoking m args :: below)).frames = .invoking m args :: below := State.frames_setFrames _ (State.cur_lt_of_top htop)
  obtain ⟨g₀, hg0⟩ := Option.isSome_iff_exists.mp htop
  obtain ⟨r, hr⟩ := State.topJava?_eq_some.mp hg0
  have hl9 : e.platform.stackLimits (T.setVm s.vm).me = e.platform.stackLimits s.me := X.limits
  have hb9 : (T.setVm s.vm).me.stackBytes = s.me.stackBytes := X.bytes
  refine ⟨X.admits, X.cas, X.clock, hF, ?_, X.hears, X.method, X.code, X.here, X.tail, X.warmed, ?_, ?_, ?_⟩
  · have h := X.room
    have hU : ((T.setVm s.vm).setFrames (.invoking m args :: below)).localsInUse = s.localsInUse := by
      rw [State.localsInUse_invoking hF (meth := meth) (c := c) X.method X.code, State.localsInUse_invoking X.frames X.method X.code]
    simp only [State.hasRoom, Bool.and_eq_true, decide_eq_true_eq] at h ⊢
    obtain ⟨⟨⟨⟨h1, h2, h3, h4, h5, h6⟩, h7⟩, h8⟩, h9⟩ := h
    rw [X.frames, List.length_cons] at h2 h3
    have q1 := X.heapSize
    have q2 := X.used
    simp only [hF, hU, List.length_cons, State.stackLimits_setFrames, State.stackBytes_setFrames, hl9, hb9]
    refine ⟨⟨⟨⟨by omega, by omega, by omega, by omega, by omega, h6⟩, ?_⟩, ?_⟩, X.book⟩
    · show T.heap.size + R'.cells ≤ e.platform.maxCells
      omega
    · show T.slotsUsed + R'.slots ≤ e.platform.maxSlots
      omega
  · rw [State.stackLimits_setFrames]; rfl
  · rw [State.stackBytes_setFrames]; rfl
  · refine ⟨?_, Nat.le_refl _, Nat.le_refl _, ?_, ?_, fun a c9 h9 => ⟨c9, h9, rfl, rfl, fun _ _ => rfl⟩⟩
    · obtain ⟨t, ht, -⟩ := State.frames_cons hr
      show T.setVm s.vm = { ((T.setVm s.vm).setFrames (.invoking m args :: below)).setFrames (T.setVm s.vm).frames with heap := T.heap, slotsUsed := T.slotsUsed }
      rw [State.setFrames_setFrames, State.setFrames_self ht]
      rfl
    · show T.slotsUsed = T.slotsUsed + ((T.heap.toList.drop T.heap.size).map (·.slots.size)).sum
      rw [List.drop_eq_nil_of_le (Nat.le_of_eq Array.length_toList)]
      rfl
    · show ((T.heap.toList.drop T.heap.size).map (·.slots.size)).sum ≤ 0
      rw [List.drop_eq_nil_of_le (Nat.le_of_eq Array.length_toList)]
      exact Nat.le_refl _
/-- 'throw new E()': new; dup; invokespecial; athrow -/
theorem vx_throw0 {cc : ByteArray} {pc : Nat} (hexec : p.tables.exec = Jvm.exec) (hb : c.code = cc) (hl : l.stackTraces = false) {own cls : String} {names : List String} {ik ic mc ms : Nat} {A : Nat → Prop}
    (hown : s.vm.findClass own = some m.cls) (hcls : Bundle.fit cls = true) (hnames : ∀ n ∈ names, Bundle.fit n = true)
    (hk : (Cond.classLink own ik cls).before args s = true) (hini : (Cond.initialized cls).before args s = true) (hat : ∀ w ∈ vx_at0 own ic cls names, w.before args s = true)
    (hgood : ∀ w ∈ Cond.classLink own ik cls :: Cond.initialized cls :: vx_at0 own ic cls names, vx_ot w = true)
    (hU : vx_Zq Bundle.tN "UNASSIGNED_STACK" Bundle.steD A s s.heap) (hN : vx_Zq Bundle.tN "SUPPRESSED_SENTINEL" Bundle.listD A s s.heap) (hS : va_S A s.heap H locs) (hsize : ls.size = c.maxLocals)
    (d0 : decode cc pc = .ok (.new ik, 3)) (d3 : decode cc (pc + 3) = .ok (.dup, 1)) (d4 : decode cc (pc + 4) = .ok (.invokespecial ic, 3)) (d7 : decode cc (pc + 7) = .ok (.athrow, 1))
    (hout : ∀ x ∈ c.exceptionTable.toList, covers x (pc + 7) = false)
    (hRframes : names.length + 3 < R.frames) (hRlocals : (rest.map fun v => v.category).sum + (13 * (names.length + 1) + 42) ≤ R.locals) (hRcells : cells + 1 ≤ R.cells) (hRslots : slots + 6 ≤ R.slots) (hlocks : meth.locks = false)
    (hx : ∀ t : State, s.vm.Alike t.vm → H.size ≤ t.heap.size → (∀ q : Nat, q < H.size → t.heap[q]? = H[q]?) → XC cls s t)
    (hf : ∀ z ∈ locs, free z.base) (hc : cells + 1 ≤ mc) (hs : slots + 6 ≤ ms) :
    W p l e R s m args below meth c H locs cells slots (vx_MQ below Qc XC args s mc ms free) (F0 m pc ls rest) := by
  intro T hT X
  have htr : e.platform.stackTraces = false := (show e.platform.stackTraces = l.stackTraces by rw [X.admits.platform]).trans hl
  have Y := vx_rebase X (R' := { frames := R.frames, locals := R.locals, cells := 1, slots := 6 }) (Nat.le_refl _) (Nat.le_refl _) hRcells hRslots
  obtain ⟨s', hA⟩ : ∃ z, z = (T.setVm s.vm).setFrames (.invoking m args :: below) := ⟨_, rfl⟩
  rw [← hA] at Y
  have hvm : s'.vm = s.vm := by rw [hA]; rfl
  have hhp : s'.heap = H := by rw [hA]; exact hT
  have hW0 : s.WarmedH s'.vm := by rw [hvm]; exact State.WarmedH.refl s
  have hat' : ∀ w ∈ vx_at0 own ic cls names, w.before args s' = true := fun w hw => vx_ot_at hW0 hvm.symm (hgood w (List.mem_cons_of_mem _ (List.mem_cons_of_mem _ hw))) (hat w hw)
  have hk' : (Cond.classLink own ik cls).before args s' = true := vx_ot_at hW0 hvm.symm (hgood _ List.mem_cons_self) hk
  have hini' : (Cond.initialized cls).before args s' = true := vx_ot_at hW0 hvm.symm (hgood _ (List.mem_cons_of_mem _ List.mem_cons_self)) hini
  have hU' : vx_Zq Bundle.tN "UNASSIGNED_STACK" Bundle.steD A s' s'.heap := by rw [hhp]; exact vx_Zq.moved hW0.alike (hU.kept hS.2.1)
  have hN' : vx_Zq Bundle.tN "SUPPRESSED_SENTINEL" Bundle.listD A s' s'.heap := by rw [hhp]; exact vx_Zq.moved hW0.alike (hN.kept hS.2.1)
  have h : ∀ w ∈ Bundle.ownAtoms0 own ic cls names, w.before args s' = true := vx_own hat' (vx_isRefq hU'.1) (vx_isRefq hN'.1) hU'.2.word hN'.2.word
  have hown' : s'.vm.findClass own = some m.cls := by rw [hvm]; exact hown
  have hins : (Cond.instantiable cls 6).before args s' = true := h _ (by simp [Bundle.ownAtoms0])
  obtain ⟨vm₁, cX, kX, hfX, hkX, -, -, X₁, st1⟩ := Y.newCold hexec (own := own) (C := cls) (index := ik) (n := 6) hown' hk' hins hini'
    (g := F0 m pc ls rest) rfl (by rw [hb]; exact d0) (Nat.le_refl _) (Nat.le_refl _)
  generalize hT1 : (T.setVm vm₁).pushCell { cls := cX, slots := kX.instanceTypes.map defaultValue, vm := .none } = T1 at X₁ st1
  have hcat : (Value.ref T.heap.size).category = 1 := rfl
  have hcellA : T1.heap[T.heap.size]? = some (freshCell cX kX) := by rw [← hT1]; exact State.heap_pushCell_size _ _
  have d3' : decode c.code (pc + 3) = .ok (.dup, 1) := by rw [hb]; exact d3
  obtain ⟨U, hsteps, hrun, hend, hW, hsame, ce, hce, hO⟩ := X₁.ctorThrow0 hexec htr (own := own) (cls := cls) (names := names) (ic := ic) hown' hcls hnames h (fun x hx => nomatch hx) hfX hkX hcellA (by rw [hhp, hT]; exact Nat.le_refl _)
    (g := { method := m, pc := pc + 4, locals := ls, stack := .ref T.heap.size :: .ref T.heap.size :: rest, locked := none }) rfl hsize rfl rfl (rest := rest) rfl
    (by rw [hb]; exact d4) (by rw [hb]; exact d7) hout hRframes (by simp only [List.map_cons, List.sum_cons, hcat]; omega) hlocks
  obtain ⟨f1, f2⟩ := vx_frame hsame
  rw [hhp] at f1 f2
  have hWs : s.WarmedH U.vm := State.WarmedH.trans hW0 hW
  have hcl : s.vm.findClass cls = some ce.cls := by
    have h9 := hO.cls
    rw [hvm] at h9
    exact h9
  have hall : s.sameButNew ({ U with vm := s.vm } : State) locs mc ms := by
    subst hA
    obtain ⟨e1, e2⟩ := hsame
    rw [State.setFrames_setFrames] at e1
    have h2 : (T.setVm s.vm).sameButNew ({ U with vm := s.vm } : State) [] (0 + 1) (0 + 6) := ⟨e1, e2⟩
    have h3 := X.same.trans h2
    rw [List.append_nil] at h3
    exact h3.mono hc hs
  refine ⟨U, ?_, .threw T.heap.size, hrun, hend, Or.inr ⟨T.heap.size, rfl, cls, ce, locs, hx U hWs.alike f1 (fun q hq => f2 q hq (fun z hz => nomatch hz)), hce, hO.vm, hcl, hWs, hall, hf⟩⟩
  refine st1 _ ?_
  show Steps p.tables e below (T1.setTop { method := m, pc := pc + 3, locals := ls, stack := .ref T.heap.size :: rest, locked := none }) _
  jvm_step X₁.here [X₁.here.top, hexec, d3', Value.category]
  exact hsteps
/-- 'throw new E("text")': new; dup; ldc; invokespecial; athrow -/
theorem vx_throwS {cc : ByteArray} {pc : Nat} (hexec : p.tables.exec = Jvm.exec) (hb : c.code = cc) (hl : l.stackTraces = false) {own cls text : String} {names : List String} {ik is ic mc ms sa : Nat} {A : Nat → Prop}
    (hown : s.vm.findClass own = some m.cls) (hcls : Bundle.fit cls = true) (hnames : ∀ n ∈ names, Bundle.fit n = true)
    (hk : (Cond.classLink own ik cls).before args s = true) (hini : (Cond.initialized cls).before args s = true) (hstr : vk_R own is text sa s) (hat : ∀ w ∈ vx_atS own ic cls names, w.before args s = true)
    (hgood : ∀ w ∈ Cond.classLink own ik cls :: Cond.initialized cls :: vx_atS own ic cls names, vx_ot w = true)
    (hU : vx_Zq Bundle.tN "UNASSIGNED_STACK" Bundle.steD A s s.heap) (hN : vx_Zq Bundle.tN "SUPPRESSED_SENTINEL" Bundle.listD A s s.heap) (hS : va_S A s.heap H locs) (hsize : ls.size = c.maxLocals)
    (d0 : decode cc pc = .ok (.new ik, 3)) (d3 : decode cc (pc + 3) = .ok (.dup, 1)) (d4 : decode cc (pc + 4) = .ok (.ldc is, 2)) (d6 : decode cc (pc + 6) = .ok (.invokespecial ic, 3)) (d9 : decode cc (pc + 9) = .ok (.athrow, 1))
    (hout : ∀ x ∈ c.exceptionTable.toList, covers x (pc + 9) = false)
    (hRframes : names.length + 3 < R.frames) (hRlocals : (rest.map fun v => v.category).sum + (13 * (names.length + 1) + 43) ≤ R.locals) (hRcells : cells + 1 ≤ R.cells) (hRslots : slots + 6 ≤ R.slots) (hlocks : meth.locks = false)
    (hx : ∀ t : State, s.vm.Alike t.vm → H.size ≤ t.heap.size → (∀ q : Nat, q < H.size → t.heap[q]? = H[q]?) → XC cls s t)
    (hf : ∀ z ∈ locs, free z.base) (hc : cells + 1 ≤ mc) (hs : slots + 6 ≤ ms) :
    W p l e R s m args below meth c H locs cells slots (vx_MQ below Qc XC args s mc ms free) (F0 m pc ls rest) := by
  intro T hT X
  have htr : e.platform.stackTraces = false := (show e.platform.stackTraces = l.stackTraces by rw [X.admits.platform]).trans hl
  have Y := vx_rebase X (R' := { frames := R.frames, locals := R.locals, cells := 1, slots := 6 }) (Nat.le_refl _) (Nat.le_refl _) hRcells hRslots
  obtain ⟨s', hA⟩ : ∃ z, z = (T.setVm s.vm).setFrames (.invoking m args :: below) := ⟨_, rfl⟩
  rw [← hA] at Y
  have hvm : s'.vm = s.vm := by rw [hA]; rfl
  have hhp : s'.heap = H := by rw [hA]; exact hT
  have hW0 : s.WarmedH s'.vm := by rw [hvm]; exact State.WarmedH.refl s
  have hat' : ∀ w ∈ vx_atS own ic cls names, w.before args s' = true := fun w hw => vx_ot_at hW0 hvm.symm (hgood w (List.mem_cons_of_mem _ (List.mem_cons_of_mem _ hw))) (hat w hw)
  have hk' : (Cond.classLink own ik cls).before args s' = true := vx_ot_at hW0 hvm.symm (hgood _ List.mem_cons_self) hk
  have hini' : (Cond.initialized cls).before args s' = true := vx_ot_at hW0 hvm.symm (hgood _ (List.mem_cons_of_mem _ List.mem_cons_self)) hini
  have hU' : vx_Zq Bundle.tN "UNASSIGNED_STACK" Bundle.steD A s' s'.heap := by rw [hhp]; exact vx_Zq.moved hW0.alike (hU.kept hS.2.1)
  have hN' : vx_Zq Bundle.tN "SUPPRESSED_SENTINEL" Bundle.listD A s' s'.heap := by rw [hhp]; exact vx_Zq.moved hW0.alike (hN.kept hS.2.1)
  have h : ∀ w ∈ Bundle.ownAtoms own ic cls names, w.before args s' = true := vx_own hat' (vx_isRefq hU'.1) (vx_isRefq hN'.1) hU'.2.word hN'.2.word
  have hown' : s'.vm.findClass own = some m.cls := by rw [hvm]; exact hown
  have hins : (Cond.instantiable cls 6).before args s' = true := h _ (by simp [Bundle.ownAtoms])
  obtain ⟨vm₁, cX, kX, hfX, hkX, -, -, X₁, st1⟩ := Y.newCold hexec (own := own) (C := cls) (index := ik) (n := 6) hown' hk' hins hini'
    (g := F0 m pc ls rest) rfl (by rw [hb]; exact d0) (Nat.le_refl _) (Nat.le_refl _)
  generalize hT1 : (T.setVm vm₁).pushCell { cls := cX, slots := kX.instanceTypes.map defaultValue, vm := .none } = T1 at X₁ st1
  have hcat : (Value.ref T.heap.size).category = 1 := rfl
  have hcellA : T1.heap[T.heap.size]? = some (freshCell cX kX) := by rw [← hT1]; exact State.heap_pushCell_size _ _
  have d3' : decode c.code (pc + 3) = .ok (.dup, 1) := by rw [hb]; exact d3
  have d4' : decode c.code (pc + 4) = .ok (.ldc is, 2) := by rw [hb]; exact d4
  have hstr' : vk_R own is text sa s' := vk_R.warm hW0 hstr
  obtain ⟨U, hsteps, hrun, hend, hW, hsame, ce, hce, hO⟩ := X₁.ctorThrowS hexec htr (own := own) (cls := cls) (names := names) (ic := ic) hown' hcls hnames h (fun x hx => nomatch hx) hfX hkX hcellA (by rw [hhp, hT]; exact Nat.le_refl _) (msg := .ref sa) rfl
    (g := { method := m, pc := pc + 6, locals := ls, stack := .ref sa :: .ref T.heap.size :: .ref T.heap.size :: rest, locked := none }) rfl hsize rfl rfl (rest := rest) rfl
    (by rw [hb]; exact d6) (by rw [hb]; exact d9) hout hRframes (by simp only [List.map_cons, List.sum_cons, hcat]; omega) hlocks
  obtain ⟨f1, f2⟩ := vx_frame hsame
  rw [hhp] at f1 f2
  have hWs : s.WarmedH U.vm := State.WarmedH.trans hW0 hW
  have hcl : s.vm.findClass cls = some ce.cls := by
    have h9 := hO.cls
    rw [hvm] at h9
    exact h9
  have hall : s.sameButNew ({ U with vm := s.vm } : State) locs mc ms := by
    subst hA
    obtain ⟨e1, e2⟩ := hsame
    rw [State.setFrames_setFrames] at e1
    have h2 : (T.setVm s.vm).sameButNew ({ U with vm := s.vm } : State) [] (0 + 1) (0 + 6) := ⟨e1, e2⟩
    have h3 := X.same.trans h2
    rw [List.append_nil] at h3
    exact h3.mono hc hs
  refine ⟨U, ?_, .threw T.heap.size, hrun, hend, Or.inr ⟨T.heap.size, rfl, cls, ce, locs, hx U hWs.alike f1 (fun q hq => f2 q hq (fun z hz => nomatch hz)), hce, hO.vm, hcl, hWs, hall, hf⟩⟩
  refine st1 _ ?_
  show Steps p.tables e below (T1.setTop { method := m, pc := pc + 3, locals := ls, stack := .ref T.heap.size :: rest, locked := none }) _
  jvm_step X₁.here [X₁.here.top, hexec, d3', Value.category]
  exact X₁.ldcString hexec (own := own) (text := text) (index := is) (a := sa) hown' hstr'.1 hstr'.2
    (g := { method := m, pc := pc + 4, locals := ls, stack := .ref T.heap.size :: .ref T.heap.size :: rest, locked := none }) rfl d4' _ hsteps
/-- 'throw new E("text")', the text by a wide index -/
theorem vx_throwSW {cc : ByteArray} {pc : Nat} (hexec : p.tables.exec = Jvm.exec) (hb : c.code = cc) (hl : l.stackTraces = false) {own cls text : String} {names : List String} {ik is ic mc ms sa : Nat} {A : Nat → Prop}
    (hown : s.vm.findClass own = some m.cls) (hcls : Bundle.fit cls = true) (hnames : ∀ n ∈ names, Bundle.fit n = true)
    (hk : (Cond.classLink own ik cls).before args s = true) (hini : (Cond.initialized cls).before args s = true) (hstr : vk_R own is text sa s) (hat : ∀ w ∈ vx_atS own ic cls names, w.before args s = true)
    (hgood : ∀ w ∈ Cond.classLink own ik cls :: Cond.initialized cls :: vx_atS own ic cls names, vx_ot w = true)
    (hU : vx_Zq Bundle.tN "UNASSIGNED_STACK" Bundle.steD A s s.heap) (hN : vx_Zq Bundle.tN "SUPPRESSED_SENTINEL" Bundle.listD A s s.heap) (hS : va_S A s.heap H locs) (hsize : ls.size = c.maxLocals)
    (d0 : decode cc pc = .ok (.new ik, 3)) (d3 : decode cc (pc + 3) = .ok (.dup, 1)) (d4 : decode cc (pc + 4) = .ok (.ldc_w is, 3)) (d7 : decode cc (pc + 7) = .ok (.invokespecial ic, 3)) (d10 : decode cc (pc + 10) = .ok (.athrow, 1))
    (hout : ∀ x ∈ c.exceptionTable.toList, covers x (pc + 10) = false)
    (hRframes : names.length + 3 < R.frames) (hRlocals : (rest.map fun v => v.category).sum + (13 * (names.length + 1) + 43) ≤ R.locals) (hRcells : cells + 1 ≤ R.cells) (hRslots : slots + 6 ≤ R.slots) (hlocks : meth.locks = false)
    (hx : ∀ t : State, s.vm.Alike t.vm → H.size ≤ t.heap.size → (∀ q : Nat, q < H.size → t.heap[q]? = H[q]?) → XC cls s t)
    (hf : ∀ z ∈ locs, free z.base) (hc : cells + 1 ≤ mc) (hs : slots + 6 ≤ ms) :
    W p l e R s m args below meth c H locs cells slots (vx_MQ below Qc XC args s mc ms free) (F0 m pc ls rest) := by
  intro T hT X
  have htr : e.platform.stackTraces = false := (show e.platform.stackTraces = l.stackTraces by rw [X.admits.platform]).trans hl
  have Y := vx_rebase X (R' := { frames := R.frames, locals := R.locals, cells := 1, slots := 6 }) (Nat.le_refl _) (Nat.le_refl _) hRcells hRslots
  obtain ⟨s', hA⟩ : ∃ z, z = (T.setVm s.vm).setFrames (.invoking m args :: below) := ⟨_, rfl⟩
  rw [← hA] at Y
  have hvm : s'.vm = s.vm := by rw [hA]; rfl
  have hhp : s'.heap = H := by rw [hA]; exact hT
  have hW0 : s.WarmedH s'.vm := by rw [hvm]; exact State.WarmedH.refl s
  have hat' : ∀ w ∈ vx_atS own ic cls names, w.before args s' = true := fun w hw => vx_ot_at hW0 hvm.symm (hgood w (List.mem_cons_of_mem _ (List.mem_cons_of_mem _ hw))) (hat w hw)
  have hk' : (Cond.classLink own ik cls).before args s' = true := vx_ot_at hW0 hvm.symm (hgood _ List.mem_cons_self) hk
  have hini' : (Cond.initialized cls).before args s' = true := vx_ot_at hW0 hvm.symm (hgood _ (List.mem_cons_of_mem _ List.mem_cons_self)) hini
  have hU' : vx_Zq Bundle.tN "UNASSIGNED_STACK" Bundle.steD A s' s'.heap := by rw [hhp]; exact vx_Zq.moved hW0.alike (hU.kept hS.2.1)
  have hN' : vx_Zq Bundle.tN "SUPPRESSED_SENTINEL" Bundle.listD A s' s'.heap := by rw [hhp]; exact vx_Zq.moved hW0.alike (hN.kept hS.2.1)
  have h : ∀ w ∈ Bundle.ownAtoms own ic cls names, w.before args s' = true := vx_own hat' (vx_isRefq hU'.1) (vx_isRefq hN'.1) hU'.2.word hN'.2.word
  have hown' : s'.vm.findClass own = some m.cls := by rw [hvm]; exact hown
  have hins : (Cond.instantiable cls 6).before args s' = true := h _ (by simp [Bundle.ownAtoms])
  obtain ⟨vm₁, cX, kX, hfX, hkX, -, -, X₁, st1⟩ := Y.newCold hexec (own := own) (C := cls) (index := ik) (n := 6) hown' hk' hins hini'
    (g := F0 m pc ls rest) rfl (by rw [hb]; exact d0) (Nat.le_refl _) (Nat.le_refl _)
  generalize hT1 : (T.setVm vm₁).pushCell { cls := cX, slots := kX.instanceTypes.map defaultValue, vm := .none } = T1 at X₁ st1
  have hcat : (Value.ref T.heap.size).category = 1 := rfl
  have hcellA : T1.heap[T.heap.size]? = some (freshCell cX kX) := by rw [← hT1]; exact State.heap_pushCell_size _ _
  have d3' : decode c.code (pc + 3) = .ok (.dup, 1) := by rw [hb]; exact d3
  have d4' : decode c.code (pc + 4) = .ok (.ldc_w is, 3) := by rw [hb]; exact d4
  have hstr' : vk_R own is text sa s' := vk_R.warm hW0 hstr
  obtain ⟨U, hsteps, hrun, hend, hW, hsame, ce, hce, hO⟩ := X₁.ctorThrowS hexec htr (own := own) (cls := cls) (names := names) (ic := ic) hown' hcls hnames h (fun x hx => nomatch hx) hfX hkX hcellA (by rw [hhp, hT]; exact Nat.le_refl _) (msg := .ref sa) rfl
    (g := { method := m, pc := pc + 7, locals := ls, stack := .ref sa :: .ref T.heap.size :: .ref T.heap.size :: rest, locked := none }) rfl hsize rfl rfl (rest := rest) rfl
    (by rw [hb]; exact d7) (by rw [hb]; exact d10) hout hRframes (by simp only [List.map_cons, List.sum_cons, hcat]; omega) hlocks
  obtain ⟨f1, f2⟩ := vx_frame hsame
  rw [hhp] at f1 f2
  have hWs : s.WarmedH U.vm := State.WarmedH.trans hW0 hW
  have hcl : s.vm.findClass cls = some ce.cls := by
    have h9 := hO.cls
    rw [hvm] at h9
    exact h9
  have hall : s.sameButNew ({ U with vm := s.vm } : State) locs mc ms := by
    subst hA
    obtain ⟨e1, e2⟩ := hsame
    rw [State.setFrames_setFrames] at e1
    have h2 : (T.setVm s.vm).sameButNew ({ U with vm := s.vm } : State) [] (0 + 1) (0 + 6) := ⟨e1, e2⟩
    have h3 := X.same.trans h2
    rw [List.append_nil] at h3
    exact h3.mono hc hs
  refine ⟨U, ?_, .threw T.heap.size, hrun, hend, Or.inr ⟨T.heap.size, rfl, cls, ce, locs, hx U hWs.alike f1 (fun q hq => f2 q hq (fun z hz => nomatch hz)), hce, hO.vm, hcl, hWs, hall, hf⟩⟩
  refine st1 _ ?_
  show Steps p.tables e below (T1.setTop { method := m, pc := pc + 3, locals := ls, stack := .ref T.heap.size :: rest, locked := none }) _
  jvm_step X₁.here [X₁.here.top, hexec, d3', Value.category]
  exact X₁.ldcStringW hexec (own := own) (text := text) (index := is) (a := sa) hown' hstr'.1 hstr'.2
    (g := { method := m, pc := pc + 4, locals := ls, stack := .ref T.heap.size :: .ref T.heap.size :: rest, locked := none }) rfl d4' _ hsteps
end Ends
section Bodies
variable {l : Launch}
theorem vx_ofW {y : MethodName} {ws ws' : List Cond} {rm : Room} {Pc : Array Value → State → Prop} {Qc : Array Value → State → Outcome → State → Prop} {XC : String → State → State → Prop} {mc ms : Nat} {free : Addr → Prop} {cc : ByteArray} {maxL : Nat} {ret : Option FieldType}
    (hy : plainName y.cls = true) (hw : ws = Cond.code y cc maxL ret :: ws')
    (body : ∀ p e s m args below meth c s₁, BodyLoose p l y (headSpec ws rm) cc maxL ret e s m args below meth c s₁ → c.maxLocals = maxL → (∀ x ∈ c.exceptionTable.toList, False) → Pc args s →
      W p l e (headSpec ws rm).room s m args below meth c s.heap [] 0 0 (vx_MQ below Qc XC args s mc ms free) (entryFrame m args maxL)) : vx_Met l y ws rm Pc Qc XC mc ms free := by
  refine MetFree.of_bodyS (code := cc) (maxLocals := maxL) (ret := ret) hy ?_ ?_
  · intro args s m h hn
    obtain ⟨meth, c, h1, h2, h3, h4, h5, h6, -, -⟩ := Cond.code_spec hn (atoms_spec (ws := ws) h _ (by rw [hw]; exact List.mem_cons_self))
    exact ⟨meth, c, h1, h2, h3, h4, h5, h6⟩
  · intro p e s m args below meth c s₁ B hml hP _
    have hh0 : s₁.heap = s.heap := by rw [B.state]; rfl
    have ht : ∀ x ∈ c.exceptionTable.toList, False := by
      obtain ⟨meth9, c9, h1, h2, -, -, -, -, h7, -⟩ := Cond.code_spec B.named (atoms_spec (ws := ws) B.pre _ (by rw [hw]; exact List.mem_cons_self))
      cases Option.some.inj (h1.symm.trans B.method)
      cases Option.some.inj (h2.symm.trans (Stand.of_body B).code)
      intro x hx
      rw [Array.isEmpty_iff.mp h7] at hx
      cases hx
    obtain ⟨t, a1, o, b1, b2, b3⟩ := body p e s m args below meth c s₁ B hml ht hP s₁ hh0 (Stand.of_body B)
    exact ⟨t, o, a1, b1, b2, b3⟩
/-- the table of a body with handlers -/
theorem vx_table {p : Program} {x y : MethodName} {S : Spec} {cc bytes : ByteArray} {maxL maxL' : Nat} {ret ret' : Option FieldType} {e : Env} {s s₁ : State} {m : MethodId} {args : Array Value} {below : List Frame} {meth : Method} {c : Code} {hh : List (Nat × Nat × Nat × Nat)}
    (B : BodyLoose p l y S cc maxL ret e s m args below meth c s₁) (h : (Cond.codeWith y bytes maxL' ret' hh).before args s = true) : c.exceptionTable.toList = tableOf hh := by
  obtain ⟨m9, meth9, c9, hn9, h1, h2, -, -, h6, -⟩ := Cond.codeWith_spec h
  cases Option.some.inj (hn9.symm.trans B.named)
  cases Option.some.inj (h1.symm.trans B.method)
  cases Option.some.inj (h2.symm.trans (Stand.of_body B).code)
  rw [← h6, table_eq]
end Bodies
end VXA
/-! ===== END ===== -/
/-! ===== BEGIN a static call of a method with an exception table ===== -/
section VXS
variable {p : Program} {l : Launch} {e : Env} {R : Room} {s : State} {m : MethodId} {args : Array Value} {below : List Frame} {meth : Method} {c : Code} {T : State} {H : Heap} {locs : List Loc} {cells slots : Nat}
abbrev vx_CSW (R : Room) (s : State) (args : Array Value) (own : String) (index : Nat) (y : MethodName) (bytes : ByteArray) (maxL : Nat) (ret : Option FieldType) (hh : List (Nat × Nat × Nat × Nat)) (ws : List Cond) (rm : Room) (mc ms n : Nat) : Prop :=
  (rm.cells = mc ∧ rm.slots = ms ∧ rm.frames + 1 ≤ R.frames ∧ 8 + (maxL + 11) + rm.locals ≤ R.locals ∧ (∀ w ∈ ws, ∀ (a' : Array Value) (U : State), s.WarmedH U.vm → w.before a' U = true) ∧ Cond.codeWith y bytes maxL ret hh ∈ ws) ∧
  (Cond.codeWith y bytes maxL ret hh).before args s = true ∧ (Cond.initialized y.cls).before args s = true ∧ (y.cls ≠ "java/lang/invoke/MethodHandle" ∧ y.cls ≠ "java/lang/invoke/VarHandle") ∧
  (∀ sig, parseMethodDescriptor y.desc = some sig → n = sig.parameters.length) ∧ (Cond.methodLink own index y).before args s = true ∧ (Cond.static y).before args s = true
theorem vx_cwSW {own : String} {index maxL mc ms : Nat} {y : MethodName} {bytes : ByteArray} {ret : Option FieldType} {hh : List (Nat × Nat × Nat × Nat)} {Ts ws ws' : List Cond} {rm : Room} (n : Nat) (ht : ∀ w ∈ Ts, w.before args s = true) (hT : GoodIn Ts (va_wsS own index y ws)) (hw : ws = Cond.codeWith y bytes maxL ret hh :: ws') (hrc : rm.cells = mc) (hrs : rm.slots = ms)
    (hd : y.cls ≠ "java/lang/invoke/MethodHandle" ∧ y.cls ≠ "java/lang/invoke/VarHandle" ∧ (parseMethodDescriptor y.desc).map (fun d => d.parameters.length) = some n) (hR : rm.frames + 1 ≤ R.frames ∧ 8 + (maxL + 11) + rm.locals ≤ R.locals) :
    vx_CSW R s args own index y bytes maxL ret hh ws rm mc ms n := by
  have ok : ∀ w ∈ va_wsS own index y ws, w.before args s = true := fun w h => ht w (hT w h).1
  have hG : GoodIn Ts ws := fun w h => hT w (by unfold va_wsS; exact List.mem_append_right _ h)
  have hc : Cond.codeWith y bytes maxL ret hh ∈ ws := by rw [hw]; exact List.mem_cons_self
  refine ⟨⟨hrc, hrs, hR.1, hR.2, pay_in ht hG, hc⟩, ht _ (hG _ hc).1, ok _ (by simp [va_wsS]), ⟨hd.1, hd.2.1⟩, fun sig h => ?_, ok _ (by simp [va_wsS]), ok _ (by simp [va_wsS])⟩
  have h2 := hd.2.2
  rw [h] at h2
  exact (Option.some.inj h2).symm
theorem vx_callSW (X : Stand p l e R s m args below meth c T locs cells slots) (hexec : p.tables.exec = Jvm.exec) {own : String} {index : Nat} {y : MethodName} {bytes : ByteArray} {maxL : Nat} {ret : Option FieldType} {hh : List (Nat × Nat × Nat × Nat)}
    (hown : s.vm.findClass own = some m.cls) (hlink : (Cond.methodLink own index y).before args s = true) (hstat : (Cond.static y).before args s = true) (hinit : (Cond.initialized y.cls).before args s = true)
    (hcode : (Cond.codeWith y bytes maxL ret hh).before args s = true) (hy : y.cls ≠ "java/lang/invoke/MethodHandle" ∧ y.cls ≠ "java/lang/invoke/VarHandle")
    {W9 : Nat} {Pre : Pt → Array Value → Prop} {Post : Pt → Array Value → Option Value → Pt → Prop} (hK : Back l R p e below s args y 3 W9 Pre Post)
    {g : JFrame} (hg : g.method = m) (hsize : g.locals.size = c.maxLocals) {argsL rest : List Value} (hlen : ∀ sig, parseMethodDescriptor y.desc = some sig → argsL.length = sig.parameters.length)
    (hstack : g.stack = argsL.reverse ++ rest) (hW : 2 * g.monitorRoom + (rest.map fun v => v.category).sum ≤ W9) (hdg : decode c.code g.pc = .ok (.invokestatic index, 3))
    (hpre : ∀ vm₁, s.WarmedH vm₁ → Pre ⟨T.setVm vm₁, locs, cells, slots⟩ argsL.toArray) :
    ∃ (v : Option Value) (vm₁ : Vm) (B : Pt), s.WarmedH vm₁ ∧ Stand p l e R s m args below meth c B.U B.locs B.cells B.slots ∧ Post ⟨T.setVm vm₁, locs, cells, slots⟩ argsL.toArray v B ∧
      ∀ target, Steps p.tables e below (B.U.setTop { g with pc := g.pc + 3, stack := v.toList ++ rest }) target → Steps p.tables e below (T.setTop g) target := by
  obtain ⟨mk, methM, cM, hnamed, hmethM, -, -, -, -, -, -, hsigM⟩ := Cond.codeWith_spec hcode
  have hstatic : methM.isStatic = true := Cond.static_spec hnamed hmethM hstat
  obtain ⟨kP, hkP, -⟩ := className_of_methodNamed hnamed
  have hinitP : kP.init = .initialized := Cond.initialized_spec (findClass_of_methodNamed hnamed) hkP hinit
  obtain ⟨vm₁, X₁, hstep₁⟩ := X.invokestatic hexec hown hlink hnamed hmethM hstatic hkP hinitP hy (g := g) hg (argsL := argsL) (rest := rest) (hlen _ hsigM) hstack hdg
  obtain ⟨v, B, X', hpost, hsteps⟩ := hK m meth c ⟨T.setVm vm₁, locs, cells, slots⟩ { g with stack := rest } (.invokestatic index) mk argsL.toArray X₁ hg hsize hdg hW (X₁.named hnamed) (hpre vm₁ X₁.warmed)
  exact ⟨v, vm₁, B, X₁.warmed, X', hpost, fun target h => hstep₁ _ fun acts => by rw [doInvoke_state]; exact hsteps.trans h⟩
theorem vx_runSW {y : MethodName} {bytes cc : ByteArray} {maxL nL mc ms n index : Nat} {ret : Option FieldType} {hh : List (Nat × Nat × Nat × Nat)} {ws : List Cond} {rm : Room} {Pc : Array Value → State → Prop} {Qc : Array Value → State → Outcome → State → Prop} {free : Addr → Prop} {Ts : List Cond} {own : String} {As rest : List Value} {g : JFrame}
    (S : CallFix p m c cc nL s args Ts own) (hM : Met l y ws rm Pc Qc mc ms free) (cw : vx_CSW R s args own index y bytes maxL ret hh ws rm mc ms n) (hp : PreS s H Pc As)
    (hg : g.method = m) (hn : As.length = n) (hsize : g.locals.size = nL) (hstack : g.stack = As.reverse ++ rest) (hW : 2 * g.monitorRoom + (rest.map fun v => v.category).sum ≤ 8) (hdg : decode cc g.pc = .ok (.invokestatic index, 3)) (hf : cells + mc ≤ R.cells ∧ slots + ms ≤ R.slots) :
    va_Run p l e R s m args below meth c H locs cells slots mc ms g rest (Qc As.toArray) (free) := by
  obtain ⟨⟨hrc, hrs, hfr, hlo, hws, hcw⟩, hcode, hini, hy, hlen, hl, hstt⟩ := cw
  have hK : Back l R p e below s args y 3 8 (PreOf R mc ms Pc) (PostOf Qc mc ms free) := va_backW (hh := hh) (bytes := bytes) (maxL := maxL) (ret := ret) hM hp.1 hrc hrs hfr hlo hws hcw (fun a' U hW => word_at hW (Or.inl (by first | rfl | simp [Cond.onTables, Cond.keeps, Cond.steady])) hini)
  obtain ⟨hx, hb, hml, ho, -⟩ := S
  intro T hT X
  obtain ⟨v, vm₁, ⟨U', l2, c2, s2⟩, hW₁, X', ⟨g', mk, t, L, e1, e2, hq, h1, hL, h2, h3⟩, st⟩ := vx_callSW X hx (hh := hh) (bytes := bytes) (maxL := maxL) (ret := ret) ho hl hstt hini hcode hy hK hg (hsize.trans hml.symm) (argsL := As) (rest := rest) (fun sig h => hn.trans (hlen sig h)) hstack hW (by rw [hb]; exact hdg)
    (fun vm₁ hW₁ => ⟨hf.1, hf.2, hp.2 (T.setVm vm₁) hT hW₁⟩)
  dsimp only [Pt.U, Pt.locs, Pt.cells, Pt.slots] at X' e1 e2 h1 h2 h3 st
  subst h1; subst h2; subst h3
  exact ⟨v, (T.setVm vm₁).calling g' mk As.toArray, t, U', L, hT, X', hL, e1, e2, hq, st⟩
/-- not caught here, past rows that name other classes: it goes on to the caller -/
theorem vx_outP {p : Program} {l : Launch} {e : Env} {R : Room} {s : State} {m : MethodId} {args : Array Value} {below : List Frame} {meth : Method} {c : Code} {H : Heap} {locs : List Loc} {cells slots : Nat} {free : Addr → Prop} {ls : Array Slot} {rest : List Value} {Qc : Array Value → State → Outcome → State → Prop} {XC : String → State → State → Prop}
    {pc : Nat} {own E : String} {ce : Cell} {q : Addr} {mc ms : Nat} (hown : s.vm.findClass own = some m.cls) (hlocks : meth.locks = false)
    (hpass : ∀ z ∈ c.exceptionTable.toList, covers z pc = false ∨ (z.catchType ≠ 0 ∧ ∃ nm : String, (Cond.classLink own z.catchType nm).before args s = true ∧ va_Nc E nm s)) (hcell : H[q]? = some ce) (hv : ce.vm = .none) (hcl : s.vm.findClass E = some ce.cls)
    (hx : ∀ t : State, t.heap = H → s.vm.Alike t.vm → XC E s t) (hf : ∀ z ∈ locs, free z.base) (hc : cells ≤ mc) (hs : slots ≤ ms) :
    vx_W p l e R s m args below meth c H locs cells slots (vx_MQ below Qc XC args s mc ms free) (F0 m pc ls rest) q := by
  intro T hT X
  have hpl : e.platform.magicAccessors = ({} : Platform).magicAccessors := by rw [X.admits.platform]
  obtain ⟨vm', hW', X', st⟩ := X.outThrough hlocks q (g := F0 m pc ls rest) rfl rfl rfl (cell := ce) (by rw [hT]; exact hcell) (by rw [hv]; rfl)
    (by obtain ⟨k9, h9, -⟩ := Vm.findClass_spec hcl; exact ⟨k9, h9⟩) (fun z hz => by
      rcases hpass z hz with h | ⟨hz0, nm, hl1, hn1⟩
      · exact Or.inl h
      · obtain ⟨c6, hc6, hcl6⟩ := Cond.classLink_spec hown hl1 e.platform hpl
        obtain ⟨a8, b8, h1, h2, h3⟩ := hn1
        cases Option.some.inj (h1.symm.trans hcl)
        cases Option.some.inj (h2.symm.trans hc6)
        exact Or.inr ⟨hz0, _, hcl6, h3⟩)
  obtain ⟨g₀, hfr⟩ := X'.frames_eq
  have hcell9 : ((T.setVm vm').setFrames (.throwing q :: below)).heap[q]? = some ce := by
    show T.heap[q]? = some ce
    rw [hT]; exact hcell
  have hend : Ended ((T.setVm vm').setFrames (.throwing q :: below)) below (.threw q) := State.frames_setFrames _ (State.cur_lt_of_frames hfr)
  refine ⟨(T.setVm vm').setFrames (.throwing q :: below), ?_, .threw q, X'.here.running, hend, Or.inr ⟨q, rfl, E, ce, locs, hx _ hT (X'.ends _).1.alike, hcell9, hv, hcl, (X'.ends _).1, (X'.ends _).2.mono hc hs, hf⟩⟩
  rw [X.pushThrowing_eq]
  exact st
/-- a thing of a world lies in the heap -/
theorem vx_lt {D : va_G} {cl : List vw_C} {ws : va_W} {H1 : Heap} (h : va_P D cl ws H1) {k : Nat} {q : Nat × va_E} (hk : ws[k]? = some q) : q.1 < H1.size := (h k q hk).lt
end VXS
/-! ===== END ===== -/
/-! ===== BEGIN methods with a table of their own: called by a name, returning or throwing ===== -/
section VXH
/-! vx_backW, vx_callVX, vx_callSX, vx_callVW, vx_runVW, vx_runVX, vx_runSX, vx_ofWH follow the same proofs as their sisters above (Free/Laws.lean, Shelf42/LK1.lean); vx_outP calls Shelf42/NT130.lean (outThrough). -/
section
variable {l : Launch} {R : Room} {p : Program} {e : Env} {below : List Frame} {s : State} {sargs : Array Value} {y : MethodName} {len W9 : Nat}
theorem vx_backW {ws : List Cond} {rm : Room} {Pc : Array Value → State → Prop} {Qc : Array Value → State → Outcome → State → Prop} {XC : String → State → State → Prop} {mc ms : Nat} {free : Addr → Prop} {bytes : ByteArray} {maxL : Nat} {ret : Option FieldType} {hh : List (Nat × Nat × Nat × Nat)}
    (hM : vx_Met l y ws rm Pc Qc XC mc ms free) (hblind : FrameBlind Pc) (hrc : rm.cells = mc) (hrs : rm.slots = ms)
    (hframes : rm.frames + 1 ≤ R.frames) (hlocals : W9 + (maxL + 11) + rm.locals ≤ R.locals)
    (hws : ∀ w ∈ ws, ∀ a' U, s.WarmedH U.vm → w.before a' U = true) (hcode : Cond.codeWith y bytes maxL ret hh ∈ ws) (hinit : ∀ a' U, s.WarmedH U.vm → (Cond.initialized y.cls).before a' U = true) :
    vx_Back l R p e below s sargs y len W9 (PreOf R mc ms Pc) (PostOf Qc mc ms free) (vx_Post XC mc ms free) := by
  intro m meth c A g ig mk a X hg hsize hdg hW hn hp
  have h1 : (headSpec ws rm).pre.before a A.U = true := atoms_intro fun w hw => hws w hw _ _ X.warmed
  have h2 : (Cond.codeWith y bytes maxL ret hh).before a A.U = true := hws _ hcode _ _ X.warmed
  have h3 : (Cond.initialized y.cls).before a A.U = true := hinit _ _ X.warmed
  have h4 : A.cells + (headSpec ws rm).room.cells ≤ R.cells := by rw [show (headSpec ws rm).room.cells = mc from hrc]; exact hp.1
  have h5 : A.slots + (headSpec ws rm).room.slots ≤ R.slots := by rw [show (headSpec ws rm).room.slots = ms from hrs]; exact hp.2.1
  have hPc : Pc a (A.U.calling g mk a) := hblind _ _ _ _ hp.2.2
  obtain ⟨U, Ls, c0, s0⟩ := A
  dsimp only [Pt.U, Pt.locs, Pt.cells, Pt.slots] at h1 h2 h3 h4 h5 X hn hPc ⊢
  obtain ⟨m9, methY, cY, hn9, hmY, hcY, -, hlY, -⟩ := Cond.codeWith_spec h2
  cases Option.some.inj (hn9.symm.trans hn)
  obtain ⟨kY, hkY, -⟩ := className_of_methodNamed hn
  have hinitY : kY.init = .initialized := Cond.initialized_spec (findClass_of_methodNamed hn) hkY h3
  have h : At U g.method c below := by rw [hg]; exact X.here
  have hlocals9 : W9 + (maxL + 11) + (headSpec ws rm).room.locals ≤ R.locals := hlocals
  have happ : (headSpec ws rm).appliesLoose y e.platform (U.calling g mk a) = true :=
    Spec.appliesLoose_calling (g := g) h hdg hn hkY hinitY
      (X.room_calling (g := g) (R' := (headSpec ws rm).room) hsize hmY hcY hframes (by rw [hlY]; omega) h4 h5) h1
  obtain ⟨mid, hmid⟩ := h.above
  have hfr : (U.setTop g).frames = (.java g :: mid) ++ below := by rw [State.frames_setTop' g h.top, hmid]; rfl
  obtain ⟨o, s₂, hsteps, -, hend, hq⟩ := Steps.callFree hM p X.admits X.cas X.clock (acts := []) hfr happ hPc trivial
  have hq' : vx_Q Qc XC mc ms free a (U.calling g mk a) o s₂ := hq
  rw [State.frames_setTop' g h.top] at hend
  obtain ⟨g₀, hg0⟩ := Option.isSome_iff_exists.mp h.top
  obtain ⟨r, hr⟩ := State.topJava?_eq_some.mp hg0
  have hr' : (({ U with heap := s₂.heap, slotsUsed := s₂.slotsUsed } : State).setVm s₂.vm).frames = .java g₀ :: r := hr
  rcases hq' with ⟨hqc, L, hfe, hL⟩ | ⟨q, rfl, E, ce, L, hx, hce, hcv, hcl, hW₂, hsm, hL⟩
  · obtain ⟨⟨v, rfl⟩, hW₂, e2, q2, q3, q4, q5, q6⟩ := id hfe
    have e3 : s₂ = ({ (U.calling g mk a).setFrames s₂.frames with heap := s₂.heap, slotsUsed := s₂.slotsUsed } : State).setVm s₂.vm := by
      have : s₂ = ({ s₂ with vm := (U.calling g mk a).vm } : State).setVm s₂.vm := rfl
      rw [e2] at this
      exact this
    obtain ⟨c₂, i₂, len₂, hc₂, hd₂, hf₂⟩ := hend
    have hW' : U.WarmedH s₂.vm := hW₂
    have hcc : c₂ = c := by
      have h1 : s₂.code? g.method = U.code? g.method := by
        rw [State.code?_eq, State.code?_eq, hW'.alike.method?]
      exact Option.some.inj (hc₂.symm.trans (h1.trans h.code))
    subst hcc
    have hlen : len₂ = len := by rw [hdg] at hd₂; cases hd₂; rfl
    subst hlen
    have hs₂ : s₂ = (({ U with heap := s₂.heap, slotsUsed := s₂.slotsUsed } : State).setVm s₂.vm).setTop { g with pc := g.pc + len₂, stack := v.toList ++ g.stack } := by
      refine e3.trans ?_
      rw [hf₂, State.calling_eq h.top, State.setFrames_setFrames, State.setTop_of_frames _ hr', hr]
      rfl
    have hsame : U.sameButNew ({ U with heap := s₂.heap, slotsUsed := s₂.slotsUsed } : State) L mc ms := by
      refine ⟨?_, q2, q3, q4, q5, q6⟩
      obtain ⟨t, ht, -⟩ := State.frames_cons hr
      show ({ U with heap := s₂.heap, slotsUsed := s₂.slotsUsed } : State) = { U.setFrames U.frames with heap := s₂.heap, slotsUsed := s₂.slotsUsed }
      rw [State.setFrames_self ht]
    subst hg
    refine Or.inl ⟨v, ⟨(({ U with heap := s₂.heap, slotsUsed := s₂.slotsUsed } : State).setVm s₂.vm), Ls ++ L, c0 + mc, s0 + ms⟩,
      ⟨X.admits, X.cas, X.clock, X.frames, X.room, X.hears, X.method, X.code, (X.here.setHeapUsed s₂.heap s₂.slotsUsed).setVm hW'.alike, X.tail, State.WarmedH.trans X.warmed hW', X.limits, X.bytes, X.same.trans (hsame.setVm s.vm)⟩,
      ⟨g, mk, s₂, L, rfl, rfl, hqc, rfl, hL, rfl, rfl⟩, ?_⟩
    show Steps p.tables e below _ ((({ U with heap := s₂.heap, slotsUsed := s₂.slotsUsed } : State).setVm s₂.vm).setTop { g with pc := g.pc + len₂, stack := v.toList ++ g.stack })
    rw [← hs₂]
    exact hsteps
  · obtain ⟨e2, q2, q3, q4, q5, q6⟩ := id hsm
    have e3 : s₂ = ({ (U.calling g mk a).setFrames s₂.frames with heap := s₂.heap, slotsUsed := s₂.slotsUsed } : State).setVm s₂.vm := by
      have : s₂ = ({ s₂ with vm := (U.calling g mk a).vm } : State).setVm s₂.vm := rfl
      rw [e2] at this
      exact this
    have hf₂ : s₂.frames = .throwing q :: .java g :: U.frames.tail := hend
    have hW' : U.WarmedH s₂.vm := hW₂
    have hs₂ : s₂ = ((({ U with heap := s₂.heap, slotsUsed := s₂.slotsUsed } : State).setVm s₂.vm).setTop g).pushFrame (.throwing q) := by
      refine e3.trans ?_
      rw [hf₂, State.calling_eq h.top, State.setFrames_setFrames, State.pushFrame, State.frames_setTop _ hr', State.setTop_of_frames _ hr', State.setFrames_setFrames, hr]
      rfl
    have hsame : U.sameButNew ({ U with heap := s₂.heap, slotsUsed := s₂.slotsUsed } : State) L mc ms := by
      refine ⟨?_, q2, q3, q4, q5, q6⟩
      obtain ⟨t, ht, -⟩ := State.frames_cons hr
      show ({ U with heap := s₂.heap, slotsUsed := s₂.slotsUsed } : State) = { U.setFrames U.frames with heap := s₂.heap, slotsUsed := s₂.slotsUsed }
      rw [State.setFrames_self ht]
    subst hg
    refine Or.inr ⟨q, ⟨(({ U with heap := s₂.heap, slotsUsed := s₂.slotsUsed } : State).setVm s₂.vm), Ls ++ L, c0 + mc, s0 + ms⟩,
      ⟨X.admits, X.cas, X.clock, X.frames, X.room, X.hears, X.method, X.code, (X.here.setHeapUsed s₂.heap s₂.slotsUsed).setVm hW'.alike, X.tail, State.WarmedH.trans X.warmed hW', X.limits, X.bytes, X.same.trans (hsame.setVm s.vm)⟩,
      ⟨g, mk, s₂, L, E, ce, rfl, rfl, hx, hce, hcv, hcl, rfl, hL, rfl, rfl⟩, ?_⟩
    show Steps p.tables e below _ (((({ U with heap := s₂.heap, slotsUsed := s₂.slotsUsed } : State).setVm s₂.vm).setTop g).pushFrame (.throwing q))
    rw [← hs₂]
    exact hsteps
end
variable {p : Program} {l : Launch} {e : Env} {R : Room} {s : State} {m : MethodId} {args : Array Value} {below : List Frame} {meth : Method} {c : Code} {T : State} {H : Heap} {locs : List Loc} {cells slots : Nat}
theorem vx_callVX (X : Stand p l e R s m args below meth c T locs cells slots) (hexec : p.tables.exec = Jvm.exec) {own C : String} {index : Nat} {y : MethodName} {bytes : ByteArray} {maxL : Nat} {ret : Option FieldType} {hh : List (Nat × Nat × Nat × Nat)}
    (hown : s.vm.findClass own = some m.cls) (hlink : (Cond.methodLink own index y).before args s = true) (hinst : (Cond.instanceMethod y).before args s = true) (hsel : (Cond.selects C y y).before args s = true)
    (hcode : (Cond.codeWith y bytes maxL ret hh).before args s = true) (hy : y.cls ≠ "java/lang/invoke/MethodHandle" ∧ y.cls ≠ "java/lang/invoke/VarHandle")
    {W9 : Nat} {Pre : Pt → Array Value → Prop} {Post : Pt → Array Value → Option Value → Pt → Prop} {PostX : Pt → Array Value → Addr → Pt → Prop} (hK : vx_Back l R p e below s args y 3 W9 Pre Post PostX)
    {b : Addr} {cellB : Cell} (hcell : T.heap[b]? = some cellB) (hobj : cellB.vm.isStatics = false) (hcls : s.vm.findClass C = some cellB.cls)
    {g : JFrame} (hg : g.method = m) (hsize : g.locals.size = c.maxLocals) {argsL rest : List Value} (hlen : ∀ sig, parseMethodDescriptor y.desc = some sig → argsL.length = sig.parameters.length)
    (hstack : g.stack = argsL.reverse ++ .ref b :: rest) (hW : 2 * g.monitorRoom + (rest.map fun v => v.category).sum ≤ W9) (hdg : decode c.code g.pc = .ok (.invokevirtual index, 3))
    (hpre : ∀ vm₁, s.WarmedH vm₁ → Pre ⟨T.setVm vm₁, locs, cells, slots⟩ (Value.ref b :: argsL).toArray) :
    (∃ (v : Option Value) (vm₁ : Vm) (B : Pt), s.WarmedH vm₁ ∧ Stand p l e R s m args below meth c B.U B.locs B.cells B.slots ∧ Post ⟨T.setVm vm₁, locs, cells, slots⟩ (Value.ref b :: argsL).toArray v B ∧
      ∀ target, Steps p.tables e below (B.U.setTop { g with pc := g.pc + 3, stack := v.toList ++ rest }) target → Steps p.tables e below (T.setTop g) target) ∨
    (∃ (q : Addr) (vm₁ : Vm) (B : Pt), s.WarmedH vm₁ ∧ Stand p l e R s m args below meth c B.U B.locs B.cells B.slots ∧ PostX ⟨T.setVm vm₁, locs, cells, slots⟩ (Value.ref b :: argsL).toArray q B ∧
      Steps p.tables e below (T.setTop g) ((B.U.setTop { g with stack := rest }).pushFrame (.throwing q))) := by
  obtain ⟨mk, methM, hnamed, hmethM, hstM, habM⟩ := Cond.instanceMethod_spec hinst
  obtain ⟨m8, methM', cM, hn8, hmethM', -, -, -, -, -, -, hsigM⟩ := Cond.codeWith_spec hcode
  cases Option.some.inj (hn8.symm.trans hnamed)
  cases hmethM.symm.trans hmethM'
  obtain ⟨c2, r2, m2, q1, q2, q3, q4, kP, hkP, hkPi⟩ := Cond.selects_spec hsel
  cases hcls.symm.trans q1
  cases (State.methodFound?_of_named hnamed hy).symm.trans q2
  cases hnamed.symm.trans q3
  have hselP : selectMethod e.platform s.vm cellB.cls mk = .method mk := by rw [Launch.admits_selectMethod X.admits]; exact q4
  obtain ⟨vm₁, X₁, hstep₁⟩ := X.invokevirtual hexec hown hlink hnamed hmethM hstM hkP hkPi hy (a := b) (cell := cellB) hcell
    (fun z h => by rw [h] at hobj; cases hobj) hselP hmethM habM hkP hkPi (g := g) hg (argsL := argsL) (rest := rest) (hlen _ hsigM) hstack hdg
  rcases hK m meth c ⟨T.setVm vm₁, locs, cells, slots⟩ { g with stack := rest } (.invokevirtual index) mk (Value.ref b :: argsL).toArray X₁ hg hsize hdg hW (X₁.named hnamed) (hpre vm₁ X₁.warmed) with ⟨v, B, X', hpost, hsteps⟩ | ⟨q, B, X', hpost, hsteps⟩
  · exact Or.inl ⟨v, vm₁, B, X₁.warmed, X', hpost, fun target h => hstep₁ _ fun acts => by rw [doInvoke_state]; exact hsteps.trans h⟩
  · exact Or.inr ⟨q, vm₁, B, X₁.warmed, X', hpost, hstep₁ _ fun acts => by rw [doInvoke_state]; exact hsteps⟩
theorem vx_callSX (X : Stand p l e R s m args below meth c T locs cells slots) (hexec : p.tables.exec = Jvm.exec) {own : String} {index : Nat} {y : MethodName} {bytes : ByteArray} {maxL : Nat} {ret : Option FieldType} {hh : List (Nat × Nat × Nat × Nat)}
    (hown : s.vm.findClass own = some m.cls) (hlink : (Cond.methodLink own index y).before args s = true) (hstat : (Cond.static y).before args s = true) (hinit : (Cond.initialized y.cls).before args s = true)
    (hcode : (Cond.codeWith y bytes maxL ret hh).before args s = true) (hy : y.cls ≠ "java/lang/invoke/MethodHandle" ∧ y.cls ≠ "java/lang/invoke/VarHandle")
    {W9 : Nat} {Pre : Pt → Array Value → Prop} {Post : Pt → Array Value → Option Value → Pt → Prop} {PostX : Pt → Array Value → Addr → Pt → Prop} (hK : vx_Back l R p e below s args y 3 W9 Pre Post PostX)
    {g : JFrame} (hg : g.method = m) (hsize : g.locals.size = c.maxLocals) {argsL rest : List Value} (hlen : ∀ sig, parseMethodDescriptor y.desc = some sig → argsL.length = sig.parameters.length)
    (hstack : g.stack = argsL.reverse ++ rest) (hW : 2 * g.monitorRoom + (rest.map fun v => v.category).sum ≤ W9) (hdg : decode c.code g.pc = .ok (.invokestatic index, 3))
    (hpre : ∀ vm₁, s.WarmedH vm₁ → Pre ⟨T.setVm vm₁, locs, cells, slots⟩ argsL.toArray) :
    (∃ (v : Option Value) (vm₁ : Vm) (B : Pt), s.WarmedH vm₁ ∧ Stand p l e R s m args below meth c B.U B.locs B.cells B.slots ∧ Post ⟨T.setVm vm₁, locs, cells, slots⟩ argsL.toArray v B ∧
      ∀ target, Steps p.tables e below (B.U.setTop { g with pc := g.pc + 3, stack := v.toList ++ rest }) target → Steps p.tables e below (T.setTop g) target) ∨
    (∃ (q : Addr) (vm₁ : Vm) (B : Pt), s.WarmedH vm₁ ∧ Stand p l e R s m args below meth c B.U B.locs B.cells B.slots ∧ PostX ⟨T.setVm vm₁, locs, cells, slots⟩ argsL.toArray q B ∧
      Steps p.tables e below (T.setTop g) ((B.U.setTop { g with stack := rest }).pushFrame (.throwing q))) := by
  obtain ⟨mk, methM, cM, hnamed, hmethM, -, -, -, -, -, -, hsigM⟩ := Cond.codeWith_spec hcode
  have hstatic : methM.isStatic = true := Cond.static_spec hnamed hmethM hstat
  obtain ⟨kP, hkP, -⟩ := className_of_methodNamed hnamed
  have hinitP : kP.init = .initialized := Cond.initialized_spec (findClass_of_methodNamed hnamed) hkP hinit
  obtain ⟨vm₁, X₁, hstep₁⟩ := X.invokestatic hexec hown hlink hnamed hmethM hstatic hkP hinitP hy (g := g) hg (argsL := argsL) (rest := rest) (hlen _ hsigM) hstack hdg
  rcases hK m meth c ⟨T.setVm vm₁, locs, cells, slots⟩ { g with stack := rest } (.invokestatic index) mk argsL.toArray X₁ hg hsize hdg hW (X₁.named hnamed) (hpre vm₁ X₁.warmed) with ⟨v, B, X', hpost, hsteps⟩ | ⟨q, B, X', hpost, hsteps⟩
  · exact Or.inl ⟨v, vm₁, B, X₁.warmed, X', hpost, fun target h => hstep₁ _ fun acts => by rw [doInvoke_state]; exact hsteps.trans h⟩
  · exact Or.inr ⟨q, vm₁, B, X₁.warmed, X', hpost, hstep₁ _ fun acts => by rw [doInvoke_state]; exact hsteps⟩
theorem vx_callVW (X : Stand p l e R s m args below meth c T locs cells slots) (hexec : p.tables.exec = Jvm.exec) {own C : String} {index : Nat} {y : MethodName} {bytes : ByteArray} {maxL : Nat} {ret : Option FieldType} {hh : List (Nat × Nat × Nat × Nat)}
    (hown : s.vm.findClass own = some m.cls) (hlink : (Cond.methodLink own index y).before args s = true) (hinst : (Cond.instanceMethod y).before args s = true) (hsel : (Cond.selects C y y).before args s = true)
    (hcode : (Cond.codeWith y bytes maxL ret hh).before args s = true) (hy : y.cls ≠ "java/lang/invoke/MethodHandle" ∧ y.cls ≠ "java/lang/invoke/VarHandle")
    {W9 : Nat} {Pre : Pt → Array Value → Prop} {Post : Pt → Array Value → Option Value → Pt → Prop} (hK : Back l R p e below s args y 3 W9 Pre Post)
    {b : Addr} {cellB : Cell} (hcell : T.heap[b]? = some cellB) (hobj : cellB.vm.isStatics = false) (hcls : s.vm.findClass C = some cellB.cls)
    {g : JFrame} (hg : g.method = m) (hsize : g.locals.size = c.maxLocals) {argsL rest : List Value} (hlen : ∀ sig, parseMethodDescriptor y.desc = some sig → argsL.length = sig.parameters.length)
    (hstack : g.stack = argsL.reverse ++ .ref b :: rest) (hW : 2 * g.monitorRoom + (rest.map fun v => v.category).sum ≤ W9) (hdg : decode c.code g.pc = .ok (.invokevirtual index, 3))
    (hpre : ∀ vm₁, s.WarmedH vm₁ → Pre ⟨T.setVm vm₁, locs, cells, slots⟩ (Value.ref b :: argsL).toArray) :
    ∃ (v : Option Value) (vm₁ : Vm) (B : Pt), s.WarmedH vm₁ ∧ Stand p l e R s m args below meth c B.U B.locs B.cells B.slots ∧ Post ⟨T.setVm vm₁, locs, cells, slots⟩ (Value.ref b :: argsL).toArray v B ∧
      ∀ target, Steps p.tables e below (B.U.setTop { g with pc := g.pc + 3, stack := v.toList ++ rest }) target → Steps p.tables e below (T.setTop g) target := by
  obtain ⟨mk, methM, hnamed, hmethM, hstM, habM⟩ := Cond.instanceMethod_spec hinst
  obtain ⟨m8, methM', cM, hn8, hmethM', -, -, -, -, -, -, hsigM⟩ := Cond.codeWith_spec hcode
  cases Option.some.inj (hn8.symm.trans hnamed)
  cases hmethM.symm.trans hmethM'
  obtain ⟨c2, r2, m2, q1, q2, q3, q4, kP, hkP, hkPi⟩ := Cond.selects_spec hsel
  cases hcls.symm.trans q1
  cases (State.methodFound?_of_named hnamed hy).symm.trans q2
  cases hnamed.symm.trans q3
  have hselP : selectMethod e.platform s.vm cellB.cls mk = .method mk := by rw [Launch.admits_selectMethod X.admits]; exact q4
  obtain ⟨vm₁, X₁, hstep₁⟩ := X.invokevirtual hexec hown hlink hnamed hmethM hstM hkP hkPi hy (a := b) (cell := cellB) hcell
    (fun z h => by rw [h] at hobj; cases hobj) hselP hmethM habM hkP hkPi (g := g) hg (argsL := argsL) (rest := rest) (hlen _ hsigM) hstack hdg
  obtain ⟨v, B, X', hpost, hsteps⟩ := hK m meth c ⟨T.setVm vm₁, locs, cells, slots⟩ { g with stack := rest } (.invokevirtual index) mk (Value.ref b :: argsL).toArray X₁ hg hsize hdg hW (X₁.named hnamed) (hpre vm₁ X₁.warmed)
  exact ⟨v, vm₁, B, X₁.warmed, X', hpost, fun target h => hstep₁ _ fun acts => by rw [doInvoke_state]; exact hsteps.trans h⟩
abbrev vx_CVW (R : Room) (s : State) (args : Array Value) (own C : String) (index : Nat) (y : MethodName) (bytes : ByteArray) (maxL : Nat) (ret : Option FieldType) (hh : List (Nat × Nat × Nat × Nat)) (ws : List Cond) (rm : Room) (mc ms n : Nat) : Prop :=
  (rm.cells = mc ∧ rm.slots = ms ∧ rm.frames + 1 ≤ R.frames ∧ 8 + (maxL + 11) + rm.locals ≤ R.locals ∧ (∀ w ∈ ws, ∀ (a' : Array Value) (U : State), s.WarmedH U.vm → w.before a' U = true) ∧ Cond.codeWith y bytes maxL ret hh ∈ ws) ∧
  (Cond.codeWith y bytes maxL ret hh).before args s = true ∧ (Cond.initialized y.cls).before args s = true ∧ (y.cls ≠ "java/lang/invoke/MethodHandle" ∧ y.cls ≠ "java/lang/invoke/VarHandle") ∧
  (∀ sig, parseMethodDescriptor y.desc = some sig → n = sig.parameters.length) ∧ (Cond.methodLink own index y).before args s = true ∧ (Cond.instanceMethod y).before args s = true ∧ (Cond.selects C y y).before args s = true
theorem vx_cwVW {own C : String} {index maxL mc ms : Nat} {y : MethodName} {bytes : ByteArray} {ret : Option FieldType} {hh : List (Nat × Nat × Nat × Nat)} {Ts ws ws' : List Cond} {rm : Room} (n : Nat) (ht : ∀ w ∈ Ts, w.before args s = true) (hT : GoodIn Ts (wsV own index C y ws)) (hw : ws = Cond.codeWith y bytes maxL ret hh :: ws') (hrc : rm.cells = mc) (hrs : rm.slots = ms)
    (hd : y.cls = C ∧ y.cls ≠ "java/lang/invoke/MethodHandle" ∧ y.cls ≠ "java/lang/invoke/VarHandle" ∧ (parseMethodDescriptor y.desc).map (fun d => d.parameters.length) = some n) (hR : rm.frames + 1 ≤ R.frames ∧ 8 + (maxL + 11) + rm.locals ≤ R.locals) :
    vx_CVW R s args own C index y bytes maxL ret hh ws rm mc ms n := by
  obtain ⟨hC, hd⟩ := hd
  subst hC
  have ok : ∀ w ∈ wsV own index y.cls y ws, w.before args s = true := fun w h => ht w (hT w h).1
  have hG : GoodIn Ts ws := fun w h => hT w (by unfold wsV; exact List.mem_append_right _ h)
  have hc : Cond.codeWith y bytes maxL ret hh ∈ ws := by rw [hw]; exact List.mem_cons_self
  refine ⟨⟨hrc, hrs, hR.1, hR.2, pay_in ht hG, hc⟩, ht _ (hG _ hc).1, ok _ (by simp [wsV]), ⟨hd.1, hd.2.1⟩, fun sig h => ?_, ok _ (by simp [wsV]), ok _ (by simp [wsV]), ok _ (by simp [wsV])⟩
  have h2 := hd.2.2
  rw [h] at h2
  exact (Option.some.inj h2).symm
theorem vx_runVW {y : MethodName} {bytes cc : ByteArray} {maxL nL mc ms n index : Nat} {ret : Option FieldType} {hh : List (Nat × Nat × Nat × Nat)} {ws : List Cond} {rm : Room} {Pc : Array Value → State → Prop} {Qc : Array Value → State → Outcome → State → Prop} {free : Addr → Prop} {Ts : List Cond} {own C : String} {b : Addr} {As rest : List Value} {g : JFrame}
    (S : CallFix p m c cc nL s args Ts own) (hM : Met l y ws rm Pc Qc mc ms free) (cw : vx_CVW R s args own C index y bytes maxL ret hh ws rm mc ms n) (hp : PreV s H C b Pc As)
    (hg : g.method = m) (hn : As.length = n) (hsize : g.locals.size = nL) (hstack : g.stack = As.reverse ++ .ref b :: rest) (hW : 2 * g.monitorRoom + (rest.map fun v => v.category).sum ≤ 8) (hdg : decode cc g.pc = .ok (.invokevirtual index, 3)) (hf : cells + mc ≤ R.cells ∧ slots + ms ≤ R.slots) :
    va_Run p l e R s m args below meth c H locs cells slots mc ms g rest (Qc (Value.ref b :: As).toArray) free := by
  obtain ⟨⟨hrc, hrs, hfr, hlo, hws, hcw⟩, hcode, hini, hy, hlen, hl, hin, hse⟩ := cw
  have hK : Back l R p e below s args y 3 8 (PreOf R mc ms Pc) (PostOf Qc mc ms free) := va_backW (hh := hh) (bytes := bytes) (maxL := maxL) (ret := ret) hM hp.1 hrc hrs hfr hlo hws hcw (fun a' U hW => word_at hW (Or.inl (by first | rfl | simp [Cond.onTables, Cond.keeps, Cond.steady])) hini)
  obtain ⟨hx, hb, hml, ho, -⟩ := S
  obtain ⟨-, ⟨cellB, hcB, hoB, hclB⟩, hPc⟩ := hp
  intro T hT X
  obtain ⟨v, vm₁, ⟨U', l2, c2, s2⟩, hW₁, X', ⟨g', mk, t, L, e1, e2, hq, h1, hL, h2, h3⟩, st⟩ := vx_callVW X hx (C := C) (hh := hh) (bytes := bytes) (maxL := maxL) (ret := ret) ho hl hin hse hcode hy hK (by rw [hT]; exact hcB) hoB hclB hg (hsize.trans hml.symm) (argsL := As) (rest := rest) (fun sig h => hn.trans (hlen sig h)) hstack hW (by rw [hb]; exact hdg)
    (fun vm₁ hW₁ => ⟨hf.1, hf.2, hPc (T.setVm vm₁) hT hW₁⟩)
  dsimp only [Pt.U, Pt.locs, Pt.cells, Pt.slots] at X' e1 e2 h1 h2 h3 st
  subst h1; subst h2; subst h3
  exact ⟨v, (T.setVm vm₁).calling g' mk (Value.ref b :: As).toArray, t, U', L, hT, X', hL, e1, e2, hq, st⟩
section
variable {y : MethodName} {bytes cc : ByteArray} {maxL nL mc ms n index : Nat} {ret : Option FieldType} {ws : List Cond} {rm : Room} {Pc : Array Value → State → Prop} {Qc : Array Value → State → Outcome → State → Prop} {XC : String → State → State → Prop} {free : Addr → Prop} {Ts : List Cond} {own C : String} {b : Addr} {As rest : List Value} {g : JFrame}
theorem vx_runVX {hh : List (Nat × Nat × Nat × Nat)} (S : CallFix p m c cc nL s args Ts own) (hM : vx_Met l y ws rm Pc Qc XC mc ms free) (cw : vx_CVW R s args own C index y bytes maxL ret hh ws rm mc ms n) (hp : PreV s H C b Pc As)
    (hg : g.method = m) (hn : As.length = n) (hsize : g.locals.size = nL) (hstack : g.stack = As.reverse ++ .ref b :: rest) (hW : 2 * g.monitorRoom + (rest.map fun v => v.category).sum ≤ 8) (hdg : decode cc g.pc = .ok (.invokevirtual index, 3)) (hf : cells + mc ≤ R.cells ∧ slots + ms ≤ R.slots) :
    vx_Run p l e R s m args below meth c H locs cells slots mc ms g rest (Qc (Value.ref b :: As).toArray) XC free := by
  obtain ⟨⟨hrc, hrs, hfr, hlo, hws, hcw⟩, hcode, hini, hy, hlen, hl, hin, hse⟩ := cw
  have hK : vx_Back l R p e below s args y 3 8 (PreOf R mc ms Pc) (PostOf Qc mc ms free) (vx_Post XC mc ms free) := vx_backW (hh := hh) (bytes := bytes) (maxL := maxL) (ret := ret) hM hp.1 hrc hrs hfr hlo hws hcw (fun a' U hW => word_at hW (Or.inl (by first | rfl | simp [Cond.onTables, Cond.keeps, Cond.steady])) hini)
  obtain ⟨hx, hb, hml, ho, -⟩ := S
  obtain ⟨-, ⟨cellB, hcB, hoB, hclB⟩, hPc⟩ := hp
  intro T hT X
  rcases vx_callVX X hx (C := C) (hh := hh) (bytes := bytes) (maxL := maxL) (ret := ret) ho hl hin hse hcode hy hK (by rw [hT]; exact hcB) hoB hclB hg (hsize.trans hml.symm) (argsL := As) (rest := rest) (fun sig h => hn.trans (hlen sig h)) hstack hW (by rw [hb]; exact hdg)
    (fun vm₁ hW₁ => ⟨hf.1, hf.2, hPc (T.setVm vm₁) hT hW₁⟩) with ⟨v, vm₁, ⟨U', l2, c2, s2⟩, hW₁, X', ⟨g', mk, t, L, e1, e2, hq, h1, hL, h2, h3⟩, st⟩ | ⟨q, vm₁, ⟨U', l2, c2, s2⟩, hW₁, X', ⟨g', mk, t, L, E, ce, e1, e2, hq, hce, hcv, hcl, h1, hL, h2, h3⟩, st⟩
  · dsimp only [Pt.U, Pt.locs, Pt.cells, Pt.slots] at X' e1 e2 h1 h2 h3 st
    subst h1; subst h2; subst h3
    exact Or.inl ⟨v, (T.setVm vm₁).calling g' mk (Value.ref b :: As).toArray, t, U', L, hT, X', hL, e1, e2, hq, st⟩
  · dsimp only [Pt.U, Pt.locs, Pt.cells, Pt.slots] at X' e1 e2 h1 h2 h3 st hcl
    subst h1; subst h2; subst h3
    exact Or.inr ⟨q, (T.setVm vm₁).calling g' mk (Value.ref b :: As).toArray, t, U', L, E, ce, hT, X', hL, e1, e2, hq, hce, hcv, vx_cls hW₁ hcl, st⟩
theorem vx_runSX {hh : List (Nat × Nat × Nat × Nat)} (S : CallFix p m c cc nL s args Ts own) (hM : vx_Met l y ws rm Pc Qc XC mc ms free) (cw : vx_CSW R s args own index y bytes maxL ret hh ws rm mc ms n) (hp : PreS s H Pc As)
    (hg : g.method = m) (hn : As.length = n) (hsize : g.locals.size = nL) (hstack : g.stack = As.reverse ++ rest) (hW : 2 * g.monitorRoom + (rest.map fun v => v.category).sum ≤ 8) (hdg : decode cc g.pc = .ok (.invokestatic index, 3)) (hf : cells + mc ≤ R.cells ∧ slots + ms ≤ R.slots) :
    vx_Run p l e R s m args below meth c H locs cells slots mc ms g rest (Qc As.toArray) XC free := by
  obtain ⟨⟨hrc, hrs, hfr, hlo, hws, hcw⟩, hcode, hini, hy, hlen, hl, hstt⟩ := cw
  have hK : vx_Back l R p e below s args y 3 8 (PreOf R mc ms Pc) (PostOf Qc mc ms free) (vx_Post XC mc ms free) := vx_backW (hh := hh) (bytes := bytes) (maxL := maxL) (ret := ret) hM hp.1 hrc hrs hfr hlo hws hcw (fun a' U hW => word_at hW (Or.inl (by first | rfl | simp [Cond.onTables, Cond.keeps, Cond.steady])) hini)
  obtain ⟨hx, hb, hml, ho, -⟩ := S
  intro T hT X
  rcases vx_callSX X hx (hh := hh) (bytes := bytes) (maxL := maxL) (ret := ret) ho hl hstt hini hcode hy hK hg (hsize.trans hml.symm) (argsL := As) (rest := rest) (fun sig h => hn.trans (hlen sig h)) hstack hW (by rw [hb]; exact hdg)
    (fun vm₁ hW₁ => ⟨hf.1, hf.2, hp.2 (T.setVm vm₁) hT hW₁⟩) with ⟨v, vm₁, ⟨U', l2, c2, s2⟩, hW₁, X', ⟨g', mk, t, L, e1, e2, hq, h1, hL, h2, h3⟩, st⟩ | ⟨q, vm₁, ⟨U', l2, c2, s2⟩, hW₁, X', ⟨g', mk, t, L, E, ce, e1, e2, hq, hce, hcv, hcl, h1, hL, h2, h3⟩, st⟩
  · dsimp only [Pt.U, Pt.locs, Pt.cells, Pt.slots] at X' e1 e2 h1 h2 h3 st
    subst h1; subst h2; subst h3
    exact Or.inl ⟨v, (T.setVm vm₁).calling g' mk As.toArray, t, U', L, hT, X', hL, e1, e2, hq, st⟩
  · dsimp only [Pt.U, Pt.locs, Pt.cells, Pt.slots] at X' e1 e2 h1 h2 h3 st hcl
    subst h1; subst h2; subst h3
    exact Or.inr ⟨q, (T.setVm vm₁).calling g' mk As.toArray, t, U', L, E, ce, hT, X', hL, e1, e2, hq, hce, hcv, vx_cls hW₁ hcl, st⟩
end
end VXH
theorem vx_ofWH {l : Launch} {y : MethodName} {ws ws' : List Cond} {rm : Room} {Pc : Array Value → State → Prop} {Qc : Array Value → State → Outcome → State → Prop} {XC : String → State → State → Prop} {mc ms : Nat} {free : Addr → Prop} {cc : ByteArray} {maxL : Nat} {ret : Option FieldType} {hh : List (Nat × Nat × Nat × Nat)}
    (hy : plainName y.cls = true) (hw : ws = Cond.codeWith y cc maxL ret hh :: ws')
    (body : ∀ p e s m args below meth c s₁, BodyLoose p l y (headSpec ws rm) cc maxL ret e s m args below meth c s₁ → c.maxLocals = maxL → Pc args s →
      W p l e (headSpec ws rm).room s m args below meth c s.heap [] 0 0 (vx_MQ below Qc XC args s mc ms free) (entryFrame m args maxL)) : vx_Met l y ws rm Pc Qc XC mc ms free := by
  refine MetFree.of_bodyS (code := cc) (maxLocals := maxL) (ret := ret) hy ?_ ?_
  · intro args s m h hn
    obtain ⟨m9, meth, c, hn9, h1, h2, h3, h4, -, h5, h6, -⟩ := Cond.codeWith_spec (atoms_spec (ws := ws) h _ (by rw [hw]; exact List.mem_cons_self))
    cases hn.symm.trans hn9
    exact ⟨meth, c, h1, h2, h3, h4, h5, h6⟩
  · intro p e s m args below meth c s₁ B hml hP _
    have hh0 : s₁.heap = s.heap := by rw [B.state]; rfl
    obtain ⟨t, a1, o, b1, b2, b3⟩ := body p e s m args below meth c s₁ B hml hP s₁ hh0 (Stand.of_body B)
    exact ⟨t, o, a1, b1, b2, b3⟩
/-! ===== END ===== -/

/-! ===== BEGIN what the machine throws by itself, no traces kept ===== -/
section VXM
set_option maxHeartbeats 1000000 in
/-- the machine throws cls with the message text, no traces kept: from its note over the frame g to 'throwing' over the same frame (follows the proofs of Stand.vmThrowsMessage, Shelf/KitTracedVmS.lean, and Stand.throwsMessageColdBareV, StandMessageColdV.lean, without the step out of the frame) -/
theorem vx_vmAt {p : Program} {l : Launch} {e : Env} {R : Room} {s : State} {m₀ : MethodId} {args : Array Value} {below : List Frame} {meth : Method} {c : Code} {W : State} {locs : List Loc} {cells slots : Nat}
    (X : Stand p l e R s m₀ args below meth c W locs cells slots) (hexec : p.tables.exec = Jvm.exec) (htr : e.platform.stackTraces = false) {cls : String} {names : List String} {text : String}
    (hcls : Bundle.fit cls = true) (hnames : ∀ n ∈ names, Bundle.fit n = true) (hsoe : (cls == "java/lang/StackOverflowError") = false) (hoom : (cls == "java/lang/OutOfMemoryError") = false)
    (h : ∀ a ∈ Bundle.messageArmAtoms cls names, a.before args s = true)
    (hlocs : ∀ x ∈ locs, ∀ cell, s.heap[x.base]? = some cell → cell.vm.isStatics = false)
    (htext : (text == notModelled) = false) (hlimit : ¬ (stringBytes (stringToUtf16 text)).size > e.platform.arrayLengthLimit) (hheap : ¬ (stringBytes (stringToUtf16 text)).size * componentBytes .byte > e.platform.maxHeapBytes)
    {g : JFrame} (hg : g.method = m₀) (hsize : g.locals.size = c.maxLocals)
    (hRframes : names.length + 4 < R.frames) (hRlocals : 2 * g.monitorRoom + (g.stack.map fun v => v.category).sum + 10240 ≤ R.locals) (hshort : 13 * names.length + 55 ≤ 10240)
    (hRcells : cells + 3 ≤ R.cells) (hRslots : slots + ((stringBytes (stringToUtf16 text)).size + 4 + 6) ≤ R.slots) (hlocks : meth.locks = false) :
    ∃ (S : State) (q : Addr) (ce : Cell), (∀ target, Steps p.tables e below ((S.setTop g).pushFrame (.throwing q)) target → Steps p.tables e below ((W.setTop g).pushFrame (.throwNew cls (some text) none)) target) ∧
      Stand p l e R s m₀ args below meth c S locs (cells + 3) (slots + ((stringBytes (stringToUtf16 text)).size + 4 + 6)) ∧ S.heap[q]? = some ce ∧ s.vm.findClass cls = some ce.cls ∧ ce.vm = .none := by
  have howns : e.platform.frameOwnsMonitors = true := by rw [X.admits.platform]
  have hfin : e.platform.finalization = false := by rw [X.admits.platform]
  have hpl : e.platform.magicAccessors = ({} : Platform).magicAccessors := by rw [X.admits.platform]
  have a : ∀ x, x ∈ Bundle.messageArmAtoms cls names → x.holds args s none s [] = true := fun x hx => h x hx
  obtain ⟨T, Z0, L, -, Y⟩ := ThrowableC.of_atoms (args := args) howns hfin hpl (fun x hx => h x (by simp [Bundle.messageArmAtoms, hx]))
  obtain ⟨Z, M, LZ, LM, hnZ⟩ := Init0T.ofS_atoms (args := args) hpl L Y (fun x hx => h x (by simp [Bundle.messageArmAtoms, hx]))
  obtain ⟨P1, Ps, hlen, L1, hL, hP1m, hlink1, hlink⟩ := Bundle.chainS (args := args) hpl hnZ names cls hcls hnames (fun x hx => h x (by simp [Bundle.messageArmAtoms, hx]))
  obtain ⟨Zs, LZs, hn4, hfitv, hfitc⟩ := StringT.of_atoms (args := args) (fun x hx => h x (by simp [Bundle.messageArmAtoms, hx]))
  have hfound : s.vm.findClass cls = some P1.m.cls := findClass_of_methodNamed hP1m
  obtain ⟨c1, kX, hc1, hk, hord, -, -, hn6⟩ := Cond.instantiable_spec (a (.instantiable cls 6) (by simp [Bundle.messageArmAtoms]))
  cases Option.some.inj (hc1.symm.trans hfound)
  have hinit := Cond.initialized_spec hfound hk (a (.initialized cls) (by simp [Bundle.messageArmAtoms]))
  have hctor : kX.findMethod "<init>" "(Ljava/lang/String;)V" = some P1.m.idx := findMethod_of_methodNamed hP1m hk
  have hsel0 : selectMethod e.platform s.vm P1.m.cls T.fill0 = .method T.fill0 := by
    obtain ⟨c2, r2, m2, q1, q2, q3, q4, -⟩ := Cond.selects_spec (a (.selects cls Bundle.tFill0 Bundle.tFill0) (by simp [Bundle.messageArmAtoms]))
    cases Option.some.inj (q1.symm.trans hfound)
    cases Option.some.inj (q2.symm.trans (State.methodFound?_of_named Y.fill0 (by decide)))
    cases Option.some.inj (q3.symm.trans Y.fill0)
    rw [Launch.admits_selectMethod X.admits]; exact q4
  have hselF : selectMethod e.platform s.vm P1.m.cls T.fill = .method T.fill := by
    obtain ⟨c2, r2, m2, q1, q2, q3, q4, -⟩ := Cond.selects_spec (a (.selects cls Bundle.tFill Bundle.tFill) (by simp [Bundle.messageArmAtoms]))
    cases Option.some.inj (q1.symm.trans hfound)
    cases Option.some.inj (q2.symm.trans (State.methodFound?_of_named Y.fill (by decide)))
    cases Option.some.inj (q3.symm.trans Y.fill)
    rw [Launch.admits_selectMethod X.admits]; exact q4
  obtain ⟨cellS0, hcS0, hiss⟩ := Y.statics
  obtain ⟨u0, hu0⟩ := Cond.staticRefV Y.unassigned L.unassignedStatic L.statics hcS0 hiss (a (.isRef (.static Bundle.tN "UNASSIGNED_STACK" Bundle.steD)) (by simp [Bundle.messageArmAtoms]))
  obtain ⟨sen, hsen⟩ := Cond.staticRefV Y.sentinel L.sentinelStatic L.statics hcS0 hiss (a (.isRef (.static Bundle.tN "SUPPRESSED_SENTINEL" Bundle.listD)) (by simp [Bundle.messageArmAtoms]))
  obtain ⟨ci198, i198, fB, hk198, hg198, ha198, hsB, -, hnB, htB, hffB⟩ := Cond.ownField (t := .object "java/lang/Object") Y.found L.cls (by decide +kernel) (a (.fieldLink Bundle.tN 198 Bundle.tN "backtrace" "Ljava/lang/Object;") (by simp [Bundle.messageArmAtoms])) (a (.lays Bundle.tN Bundle.tN "backtrace" "Ljava/lang/Object;") (by simp [Bundle.messageArmAtoms])) e.platform hpl
  obtain ⟨cellS, hcS', heS, -, hkeep⟩ := X.same.2.2.2.2.2 T.aS cellS0 hcS0
  have hcellS : W.heap[T.aS]? = some cellS := hcS'
  have hout' : ∀ i, (⟨T.aS, i⟩ : Loc) ∉ locs := fun i hmem => by
    have := hlocs _ hmem cellS0 hcS0
    rw [hiss] at this; cases this
  have hknownS : cellS.vm ≠ .unknown := by
    rw [heS]; intro hu
    rw [show cellS0.vm = .unknown from hu] at hiss
    cases hiss
  have hvU : cellS.slots[T.fUnassigned.slot]? = some u0.v := by rw [hkeep _ (hout' _)]; exact hu0
  have hvSen : cellS.slots[T.fSentinel.slot]? = some sen.v := by rw [hkeep _ (hout' _)]; exact hsen
  obtain ⟨iM, hffM⟩ := Y.msg
  obtain ⟨tyC, dC, hdC, hdnC⟩ := Cond.laysAt hfound hk Y.cause (a (.lays cls Bundle.tN "cause" "Ljava/lang/Throwable;") (by simp [Bundle.messageArmAtoms]))
  obtain ⟨tyS, dS, hdS, hdnS⟩ := Cond.laysAt hfound hk Y.stack (a (.lays cls Bundle.tN "stackTrace" Bundle.steD) (by simp [Bundle.messageArmAtoms]))
  obtain ⟨tyP, dP, hdP, hdnP⟩ := Cond.laysAt hfound hk Y.supp (a (.lays cls Bundle.tN "suppressedExceptions" Bundle.listD) (by simp [Bundle.messageArmAtoms]))
  obtain ⟨tyM, dM, hdM, hdnM⟩ := Cond.laysAt hfound hk hffM (a (.lays cls Bundle.tN "detailMessage" "Ljava/lang/String;") (by simp [Bundle.messageArmAtoms]))
  obtain ⟨tyB, dB, hdB, hdnB⟩ := Cond.laysAt hfound hk hffB (a (.lays cls Bundle.tN "backtrace" "Ljava/lang/Object;") (by simp [Bundle.messageArmAtoms]))
  have bC := Cond.laysApart hdB hdC hdnB hdnC (by rw [hnB, Y.causeName]; decide)
  have bS := Cond.laysApart hdB hdS hdnB hdnS (by rw [hnB, Y.stackName]; decide)
  have bP := Cond.laysApart hdB hdP hdnB hdnP (by rw [hnB, Y.suppName]; decide)
  have hbk : ((preparedCellV T.toThrowableT (freshCell P1.m.cls kX) (W.heap.size + 2) u0 sen).withEntry W.cur).slots[fB.slot]? = some .null := by
    have := fresh_default (c := P1.m.cls) tyB
    rw [htB] at this
    simpa [preparedCellV, Cell.setSlot, Cell.withEntry, Array.getElem?_setIfInBounds, bC, bS, bP, bC.symm, bS.symm, bP.symm, defaultValue] using this
  have tkC := Takes.of_laid (v := .ref (W.heap.size + 2)) hk hord tyC (by rw [Y.causeType]; rfl)
  have tkS := Takes.of_laid (v := u0.v) hk hord tyS (by rw [Y.stackType]; exact fits_refV_array _ u0)
  have tkP := Takes.of_laid (v := sen.v) hk hord tyP (by rw [Y.suppType]; exact fits_refV_object _ sen)
  have tkM := Takes.of_laid (v := .ref (W.heap.size + 1)) hk hord tyM (by rw [Y.msgType]; rfl)
  have hskip : SkipFacts T e.platform s (fun u => u) u0 ((preparedCellV T.toThrowableT (freshCell P1.m.cls kX) (W.heap.size + 2) u0 sen).withEntry W.cur) := ⟨{ ci198 := ci198, i198 := i198, fBack := fB }, ⟨hk198, hg198, ha198, hsB⟩, hbk, fun _ _ => rfl⟩
  have h0 : At W g.method c below := by rw [hg]; exact X.here
  obtain ⟨hbeyond, hfreeW⟩ := X.vmMayThrow hsize (.throwNew cls (some text) none) (fun f hf => by cases hf) rfl hRlocals
  have hfr' : W.frames.length + Ps.length + 4 < (e.platform.stackLimits W.me).1 := by have := X.framesAbove hRframes; omega
  have hwd' : (stackUse (.java g :: W.frames.tail)).2 + 13 * Ps.length + 55 ≤ (e.platform.stackLimits W.me).2 := by have := X.stackAbove hsize (K := 13 * Ps.length + 55) (by omega); omega
  have hslots : W.slotsUsed + (stringBytes (stringToUtf16 text)).size + Zs.kS.instanceTypes.size + kX.instanceTypes.size ≤ e.platform.maxSlots := by
    have := X.slotsAbove hRslots
    rw [hn4, hn6]
    omega
  obtain ⟨vm', hW', st⟩ := Steps.vmThrowsMessageColdByV p (s₀ := s) (S := W) (g := g) h0 hexec T L Z LZ M LM X.warmed (t := W.cur) rfl Zs LZs P1 L1 Ps hL hlink1 hlink hsoe hoom hfound hk hinit hord hctor
    (Launch.admits_hotImplicitExceptions X.admits) hbeyond hfreeW htext hlimit hheap (X.cellsAbove hRcells) hslots (hfitv _) (hfitc _)
    (Nn := fun u => u) heapOnly_id (fun _ _ => rfl) (fun _ => rfl) (fun u x y => setCell_twice _ _ _ _) (fun _ => Nat.le_refl _) (cN := ((preparedCellV T.toThrowableT (freshCell P1.m.cls kX) (W.heap.size + 2) u0 sen).withEntry W.cur))
    hsel0 hcellS hknownS hvU tkS (fun _ hu => hu) (fun _ hu => hu) rfl rfl rfl (by simp [preparedCellV, Cell.setSlot, Cell.withEntry]) hskip (fun _ _ hA hW _ hroom _ hrest => L.nativeOff p htr hA hW hroom hrest) hselF hvSen tkC tkP tkM Y.objLocals rfl hfr' hwd'
  rw [plainBareV_eq T.toThrowableT (W.heap.size + 2) u0 sen (.ref (W.heap.size + 1)) W.cur rfl rfl] at st
  obtain ⟨-, -, w3, w4, -, -, -⟩ := withThrown_facts e.platform W Zs text P1.m.cls kX
  have X3 := ((X.pushed (bytesOf Zs.cB (stringToUtf16 text))).pushed (stringAt Zs.cS Zs.kS Zs.fv Zs.fc (stringToUtf16 text) W.heap.size)).pushed (freshCell P1.m.cls kX)
  rw [← withString_eq] at X3
  have X4 := X3.noted hW'
  have ha : (W.heap.size + 2) < ((withThrown W Zs text P1.m.cls kX).setVm vm').heap.size := by show _ < (withThrown W Zs text P1.m.cls kX).heap.size; rw [w3]; omega
  have hcell : ((withThrown W Zs text P1.m.cls kX).setVm vm').heap[(W.heap.size + 2)]? = some (freshCell P1.m.cls kX) := w4
  have X5 := ((((X4.stored hcell T.fCause.slot (.ref (W.heap.size + 2))).storedAgain ha T.fStack.slot u0.v).storedAgain ha T.fSupp.slot sen.v).storedAgain ha T.fStack.slot u0.v).storedAgain ha T.fMsg.slot (.ref (W.heap.size + 1))
  obtain ⟨g₁, hfrM⟩ := X5.frames_eq
  have hU : ((((withThrown W Zs text P1.m.cls kX).setVm vm').setCell (W.heap.size + 2) (plainBareV T.toThrowableT (freshCell P1.m.cls kX) (W.heap.size + 2) u0 sen (.ref (W.heap.size + 1)))).setTop g).pushFrame (.throwing (W.heap.size + 2)) = (((withThrown W Zs text P1.m.cls kX).setVm vm').setCell (W.heap.size + 2) (plainBareV T.toThrowableT (freshCell P1.m.cls kX) (W.heap.size + 2) u0 sen (.ref (W.heap.size + 1)))).setFrames (.throwing (W.heap.size + 2) :: .java g :: below) := by
    rw [State.pushFrame, State.frames_setTop _ hfrM, State.setTop_of_frames _ hfrM, State.setFrames_setFrames]
  have b1 : (bytesOf Zs.cB (stringToUtf16 text)).slots.size = (stringBytes (stringToUtf16 text)).size := by
    rw [(Cell.writeAll_facts _ _).2.2]; simp [bytes0]
  have b2 : (stringAt Zs.cS Zs.kS Zs.fv Zs.fc (stringToUtf16 text) W.heap.size).slots.size = 4 := by simp [string0, Cell.setSlot, hn4]
  have b3 : (freshCell P1.m.cls kX).slots.size = 6 := by simp [hn6]
  rw [b1, b2, b3] at X5
  have e9 : slots + (stringBytes (stringToUtf16 text)).size + 4 + 6 = slots + ((stringBytes (stringToUtf16 text)).size + 4 + 6) := by omega
  rw [e9] at X5
  simp only [List.append_assoc, List.cons_append, List.nil_append] at X5
  refine ⟨((withThrown W Zs text P1.m.cls kX).setVm vm').setCell (W.heap.size + 2) (plainBareV T.toThrowableT (freshCell P1.m.cls kX) (W.heap.size + 2) u0 sen (.ref (W.heap.size + 1))), W.heap.size + 2, _, fun target ht => st _ (by rw [X.tail, ← hU]; exact ht),
    X5.forget (fun y hy => ?_), heapAt_setCell_self _ ha, hfound, rfl⟩
  simp only [List.mem_cons, List.not_mem_nil, or_false] at hy
  have hge : s.heap.size ≤ W.heap.size := X.same.2.1
  rcases hy with rfl | rfl | rfl | rfl | rfl <;> exact Nat.le_trans hge (Nat.le_add_right _ 2)
set_option maxHeartbeats 1000000 in
/-- the machine throws NullPointerException, no traces kept: from its note over the frame g to 'throwing' over the same frame (follows the proof of Stand.vmThrowsNpe, Shelf42/KT2.lean; throwsNpeColdBareVAt, Shelf42/NT91.lean, called) -/
theorem vx_npeAt {p : Program} {l : Launch} {e : Env} {R : Room} {s : State} {m₀ : MethodId} {args : Array Value} {below : List Frame} {meth : Method} {c : Code} {W : State} {locs : List Loc} {cells slots : Nat}
    (X : Stand p l e R s m₀ args below meth c W locs cells slots) (hexec : p.tables.exec = Jvm.exec) (htr : e.platform.stackTraces = false) {n : Nat}
    (h : ∀ a ∈ Bundle.npeArmAtoms n, a.before args s = true)
    (hlocs : ∀ x ∈ locs, ∀ cell, s.heap[x.base]? = some cell → cell.vm.isStatics = false)
    {g : JFrame} (hg : g.method = m₀) (hsize : g.locals.size = c.maxLocals)
    (hRframes : 7 < R.frames) (hRlocals : 2 * g.monitorRoom + (g.stack.map fun v => v.category).sum + 10240 ≤ R.locals)
    (hRcells : cells + 1 ≤ R.cells) (hRslots : slots + n ≤ R.slots) (hlocks : meth.locks = false) :
    ∃ (S : State) (q : Addr) (ce : Cell), (∀ target, Steps p.tables e below ((S.setTop g).pushFrame (.throwing q)) target → Steps p.tables e below ((W.setTop g).pushFrame (.throwNew "java/lang/NullPointerException" none none)) target) ∧
      Stand p l e R s m₀ args below meth c S locs (cells + 1) (slots + n) ∧ S.heap[q]? = some ce ∧ s.vm.findClass "java/lang/NullPointerException" = some ce.cls ∧ ce.vm = .none := by
  have howns : e.platform.frameOwnsMonitors = true := by rw [X.admits.platform]
  have hfin : e.platform.finalization = false := by rw [X.admits.platform]
  have hpl : e.platform.magicAccessors = ({} : Platform).magicAccessors := by rw [X.admits.platform]
  have hpl2 : e.platform.arrayCloneIsPublic = true := by rw [X.admits.platform]
  have a' : ∀ x, x ∈ Bundle.npeArmAtoms n → x.holds args s none s [] = true := fun x hx => h x hx
  obtain ⟨T, Z, L, LZ, Y⟩ := ThrowableC.of_atoms (args := args) howns hfin hpl (fun x hx => h x (by simp [Bundle.npeArmAtoms, hx]))
  obtain ⟨N, LN, hcN, hnNF, hordN, hffS⟩ := NpeC.of_atoms (args := args) hpl hpl2 L Y (fun x hx => h x (by simp [Bundle.npeArmAtoms, hx]))
  obtain ⟨P1, L1, hP1m, hP1s⟩ := PassC.of_atoms (args := args) (s := s) hpl (X := Bundle.nN) (Y := Bundle.rN) (by decide) (by decide) LibCode.NullPointerException.Init0.at_0 LibCode.NullPointerException.Init0.at_1 LibCode.NullPointerException.Init0.at_4 (fun x hx => h x (by simp [Bundle.npeArmAtoms, hx]))
  obtain ⟨PR, LR, hPRm, hPRs⟩ := PassC.of_atoms (args := args) (s := s) hpl (X := Bundle.rN) (Y := Bundle.eN) (by decide) (by decide) LibCode.RuntimeException.Init0.at_0 LibCode.RuntimeException.Init0.at_1 LibCode.RuntimeException.Init0.at_4 (fun x hx => h x (by simp [Bundle.npeArmAtoms, hx]))
  obtain ⟨PE, LEx, hPEm, hPEs⟩ := PassC.of_atoms (args := args) (s := s) hpl (X := Bundle.eN) (Y := Bundle.tN) (by decide) (by decide) LibCode.Exception.Init0.at_0 LibCode.Exception.Init0.at_1 LibCode.Exception.Init0.at_4 (fun x hx => h x (by simp [Bundle.npeArmAtoms, hx]))
  have hfound : s.vm.findClass Bundle.nN = some P1.m.cls := findClass_of_methodNamed hP1m
  have ecls : N.cN = P1.m.cls := Option.some.inj (hcN.symm.trans hfound)
  have hk : s.vm.classes[P1.m.cls]? = some N.kN := by rw [← ecls]; exact LN.cls
  have hinit := Cond.initialized_spec hfound hk (a' (.initialized Bundle.nN) (by simp [Bundle.npeArmAtoms]))
  have hctor : N.kN.findMethod "<init>" "()V" = some P1.m.idx := findMethod_of_methodNamed hP1m hk
  obtain ⟨c1, k1, hc1, hk1, -, -, -, hn⟩ := Cond.instantiable_spec (a' (.instantiable Bundle.nN n) (by simp [Bundle.npeArmAtoms]))
  cases Option.some.inj (hc1.symm.trans hfound)
  cases Option.some.inj (hk1.symm.trans hk)
  have hfsz : (freshCell P1.m.cls N.kN).slots.size = n := by simp [hn]
  have hlink1 : P1.sup = PR.m := Option.some.inj (hP1s.symm.trans hPRm)
  have hlinkR : PR.sup = PE.m := Option.some.inj (hPRs.symm.trans hPEm)
  have hlinkE : PE.sup = Z.m T.toThrowableT := Option.some.inj (hPEs.symm.trans Y.init0)
  have hLs : ∀ P, P ∈ [PR, PE] → P.Links0 e.platform s := fun P hP => by
    simp only [List.mem_cons, List.not_mem_nil, or_false] at hP
    rcases hP with rfl | rfl
    · exact LR
    · exact LEx
  have hsel0 : selectMethod e.platform s.vm P1.m.cls T.fill0 = .method T.fill0 := by
    obtain ⟨c2, r2, m2, q1, q2, q3, q4, -⟩ := Cond.selects_spec (a' (.selects Bundle.nN Bundle.tFill0 Bundle.tFill0) (by simp [Bundle.npeArmAtoms]))
    cases Option.some.inj (q1.symm.trans hfound)
    cases Option.some.inj (q2.symm.trans (State.methodFound?_of_named Y.fill0 (by decide)))
    cases Option.some.inj (q3.symm.trans Y.fill0)
    rw [Launch.admits_selectMethod X.admits]; exact q4
  have hselF : selectMethod e.platform s.vm P1.m.cls T.fill = .method N.fill := by
    obtain ⟨c2, r2, m2, q1, q2, q3, q4, -⟩ := Cond.selects_spec (a' (.selects Bundle.nN Bundle.tFill Bundle.nFill) (by simp [Bundle.npeArmAtoms]))
    cases Option.some.inj (q1.symm.trans hfound)
    cases Option.some.inj (q2.symm.trans (State.methodFound?_of_named Y.fill (by decide)))
    cases Option.some.inj (q3.symm.trans hnNF)
    rw [Launch.admits_selectMethod X.admits]; exact q4
  obtain ⟨cellS0, hcS0, hiss⟩ := Y.statics
  obtain ⟨u0, hu0⟩ := Cond.staticRefV Y.unassigned L.unassignedStatic L.statics hcS0 hiss (a' (.isRef (.static Bundle.tN "UNASSIGNED_STACK" Bundle.steD)) (by simp [Bundle.npeArmAtoms]))
  obtain ⟨sen, hsen⟩ := Cond.staticRefV Y.sentinel L.sentinelStatic L.statics hcS0 hiss (a' (.isRef (.static Bundle.tN "SUPPRESSED_SENTINEL" Bundle.listD)) (by simp [Bundle.npeArmAtoms]))
  obtain ⟨ci198, i198, fB, hk198, hg198, ha198, hsB, -, hnB, htB, hffB⟩ := Cond.ownField (t := .object "java/lang/Object") Y.found L.cls (by decide +kernel) (a' (.fieldLink Bundle.tN 198 Bundle.tN "backtrace" Bundle.objD) (by simp [Bundle.npeArmAtoms])) (a' (.lays Bundle.tN Bundle.tN "backtrace" Bundle.objD) (by simp [Bundle.npeArmAtoms])) e.platform hpl
  obtain ⟨cellS, hcS', heS, -, hkeep⟩ := X.same.2.2.2.2.2 T.aS cellS0 hcS0
  have hcellS : W.heap[T.aS]? = some cellS := hcS'
  have hout' : ∀ i, (⟨T.aS, i⟩ : Loc) ∉ locs := fun i hmem => by
    have := hlocs _ hmem cellS0 hcS0
    rw [hiss] at this; cases this
  have hknownS : cellS.vm ≠ .unknown := by
    rw [heS]; intro hu
    rw [show cellS0.vm = .unknown from hu] at hiss
    cases hiss
  have hvU : cellS.slots[T.fUnassigned.slot]? = some u0.v := by rw [hkeep _ (hout' _)]; exact hu0
  have hvSen : cellS.slots[T.fSentinel.slot]? = some sen.v := by rw [hkeep _ (hout' _)]; exact hsen
  obtain ⟨tyC, dC, hdC, hdnC⟩ := Cond.laysAt hfound hk Y.cause (a' (.lays Bundle.nN Bundle.tN "cause" "Ljava/lang/Throwable;") (by simp [Bundle.npeArmAtoms]))
  obtain ⟨tyS, dS, hdS, hdnS⟩ := Cond.laysAt hfound hk Y.stack (a' (.lays Bundle.nN Bundle.tN "stackTrace" Bundle.steD) (by simp [Bundle.npeArmAtoms]))
  obtain ⟨tyP, dP, hdP, hdnP⟩ := Cond.laysAt hfound hk Y.supp (a' (.lays Bundle.nN Bundle.tN "suppressedExceptions" Bundle.listD) (by simp [Bundle.npeArmAtoms]))
  obtain ⟨tyX, dX, hdX, hdnX⟩ := Cond.laysAt hfound hk hffS (a' (.lays Bundle.nN Bundle.nN "extendedMessageState" "I") (by simp [Bundle.npeArmAtoms, Bundle.npeAtoms]))
  obtain ⟨hnX, htX⟩ := State.fieldFound?_type hffS (t := .int) (by decide +kernel)
  have xC := Cond.laysApart hdC hdX hdnC hdnX (by rw [hnX, Y.causeName]; decide)
  have xS := Cond.laysApart hdS hdX hdnS hdnX (by rw [hnX, Y.stackName]; decide)
  have xP := Cond.laysApart hdP hdX hdnP hdnX (by rw [hnX, Y.suppName]; decide)
  have hv0 : (freshCell P1.m.cls N.kN).slots[N.fState.slot]? = some (.int 0) := by
    have := fresh_default (c := P1.m.cls) tyX
    rw [htX] at this; exact this
  obtain ⟨tyB, dB, hdB, hdnB⟩ := Cond.laysAt hfound hk hffB (a' (.lays Bundle.nN Bundle.tN "backtrace" Bundle.objD) (by simp [Bundle.npeArmAtoms]))
  have bC := Cond.laysApart hdB hdC hdnB hdnC (by rw [hnB, Y.causeName]; decide)
  have bS := Cond.laysApart hdB hdS hdnB hdnS (by rw [hnB, Y.stackName]; decide)
  have bP := Cond.laysApart hdB hdP hdnB hdnP (by rw [hnB, Y.suppName]; decide)
  have bX := Cond.laysApart hdB hdX hdnB hdnX (by rw [hnB, hnX]; decide)
  have hbk : ((npeCell N.toNpeT (preparedCellV T.toThrowableT (freshCell P1.m.cls N.kN) W.heap.size u0 sen) W.cur).withEntry W.cur).slots[fB.slot]? = some .null := by
    have := fresh_default (c := P1.m.cls) tyB
    rw [htB] at this
    simpa [npeCell, preparedCellV, Cell.setSlot, Cell.withEntry, Array.getElem?_setIfInBounds, bC, bS, bP, bX, bC.symm, bS.symm, bP.symm, bX.symm, defaultValue] using this
  have tkC := Takes.of_laid (v := .ref W.heap.size) hk hordN tyC (by rw [Y.causeType]; rfl)
  have tkS := Takes.of_laid (v := u0.v) hk hordN tyS (by rw [Y.stackType]; exact fits_refV_array _ u0)
  have tkP := Takes.of_laid (v := sen.v) hk hordN tyP (by rw [Y.suppType]; exact fits_refV_object _ sen)
  have tkX := Takes.of_laid (v := .int 1) hk hordN tyX (by rw [htX]; rfl)
  have hskip : SkipFacts T e.platform s (fun u => u) u0 ((npeCell N.toNpeT (preparedCellV T.toThrowableT (freshCell P1.m.cls N.kN) W.heap.size u0 sen) W.cur).withEntry W.cur) := ⟨{ ci198 := ci198, i198 := i198, fBack := fB }, ⟨hk198, hg198, ha198, hsB⟩, hbk, fun _ _ => rfl⟩
  obtain ⟨vm', X3, st, -⟩ := X.throwsNpeColdBareVAt hexec hg hsize T L Z LZ N LN P1 L1 [PR, PE] hLs hlink1 ⟨hlinkR, hlinkE, trivial⟩ hfound hk hinit hordN hctor hsel0 hselF hcellS hknownS hvU hvSen
    hv0 xC xS xP tkC tkS tkP tkX Y.objLocals hskip (fun _ _ hA hW _ hroom _ hrest => L.nativeOff p htr hA hW hroom hrest) (by simpa using hRframes) hRlocals (by simp) hRcells (by rw [hn]; exact hRslots)
  have hlt : W.heap.size < ((W.pushCell (freshCell P1.m.cls N.kN)).setVm vm').heap.size := by
    show W.heap.size < (W.pushCell (freshCell P1.m.cls N.kN)).heap.size
    rw [State.heap_size_pushCell]; omega
  rw [hfsz] at X3
  obtain ⟨g₁, hfrM⟩ := X3.frames_eq
  have hU : ((((W.pushCell (freshCell P1.m.cls N.kN)).setVm vm').setCell W.heap.size (npeBareV T.toThrowableT N.toNpeT (freshCell P1.m.cls N.kN) W.heap.size u0 sen)).setTop g).pushFrame (.throwing W.heap.size) = (((W.pushCell (freshCell P1.m.cls N.kN)).setVm vm').setCell W.heap.size (npeBareV T.toThrowableT N.toNpeT (freshCell P1.m.cls N.kN) W.heap.size u0 sen)).setFrames (.throwing W.heap.size :: .java g :: below) := by
    rw [State.pushFrame, State.frames_setTop _ hfrM, State.setTop_of_frames _ hfrM, State.setFrames_setFrames]
  refine ⟨_, W.heap.size, _, fun target ht => st.trans (by rw [← hU]; exact ht), X3.forget (fun y hy => ?_), heapAt_setCell_self _ hlt, hfound, rfl⟩
  simp only [List.mem_cons, List.not_mem_nil, or_false] at hy
  have hge : s.heap.size ≤ W.heap.size := X.same.2.1
  rcases hy with rfl | rfl | rfl | rfl | rfl <;> exact hge
/-- the words of a machine's NullPointerException, but the four that speak of the heap -/
def vx_atN (n : Nat) : List Cond := (Bundle.npeArmAtoms n).filter vx_no
/-- the words of a machine's throw with a message, but the four that speak of the heap -/
def vx_atM (X : String) (names : List String) : List Cond := (Bundle.messageArmAtoms X names).filter vx_no
section
variable {p : Program} {l : Launch} {e : Env} {R : Room} {s : State} {m : MethodId} {args : Array Value} {below : List Frame} {meth : Method} {c : Code} {H : Heap} {locs : List Loc} {cells slots : Nat}
/-- a frame seen from a rebased start, seen from the first start again -/
theorem vx_back9 {T S : State} {R' : Room} {k n : Nat} (X : Stand p l e R s m args below meth c T locs cells slots) (Y : Stand p l e R' ((T.setVm s.vm).setFrames (.invoking m args :: below)) m args below meth c T [] 0 0) (Z : Stand p l e R' ((T.setVm s.vm).setFrames (.invoking m args :: below)) m args below meth c S [] k n) :
    Stand p l e R s m args below meth c S locs (cells + k) (slots + n) := by
  have hW0 : s.WarmedH ((T.setVm s.vm).setFrames (.invoking m args :: below)).vm := State.WarmedH.refl s
  refine { admits := X.admits, cas := X.cas, clock := X.clock, frames := X.frames, room := X.room, hears := X.hears, method := X.method, code := X.code, here := Z.here, tail := Z.tail, warmed := State.WarmedH.trans hW0 Z.warmed, limits := Z.limits.trans (Y.limits.symm.trans X.limits), bytes := Z.bytes.trans (Y.bytes.symm.trans X.bytes), same := ?_ }
  obtain ⟨e1, e2⟩ := Z.same
  rw [State.setFrames_setFrames] at e1
  have h2 : (T.setVm s.vm).sameButNew (S.setVm s.vm) [] k n := ⟨e1, e2⟩
  have h3 := X.same.trans h2
  rw [List.append_nil] at h3
  exact h3
/-- from the machine's note that E is thrown here with this text -/
def vx_Note (p : Program) (l : Launch) (e : Env) (R : Room) (s : State) (m : MethodId) (args : Array Value) (below : List Frame) (meth : Method) (c : Code) (H : Heap) (locs : List Loc) (cells slots : Nat) (Q : State → Prop) (g : JFrame) (E text : String) : Prop :=
  ∀ T : State, T.heap = H → Stand p l e R s m args below meth c T locs cells slots → ∃ t, Steps p.tables e below ((T.setTop g).pushFrame (.throwNew E (some text) none)) t ∧ Q t
theorem vx_vm {pc : Nat} {ls : Array Slot} {rest : List Value} {Q : State → Prop} (hexec : p.tables.exec = Jvm.exec) (hl : l.stackTraces = false) {cls text : String} {names : List String} {nb : Nat} {A : Nat → Prop}
    (hcls : Bundle.fit cls = true) (hnames : ∀ n ∈ names, Bundle.fit n = true) (hsoe : (cls == "java/lang/StackOverflowError") = false) (hoom : (cls == "java/lang/OutOfMemoryError") = false)
    (hat : ∀ w ∈ vx_atM cls names, w.before args s = true) (hgood : ∀ w ∈ vx_atM cls names, vx_ot w = true)
    (hU : vx_Zq Bundle.tN "UNASSIGNED_STACK" Bundle.steD A s s.heap) (hN : vx_Zq Bundle.tN "SUPPRESSED_SENTINEL" Bundle.listD A s s.heap) (hS : va_S A s.heap H locs) (hsize : ls.size = c.maxLocals)
    (htext : (text == notModelled) = false) (hnb : (stringBytes (stringToUtf16 text)).size ≤ nb) (hnb1 : nb ≤ 1000)
    (hRframes : names.length + 4 < R.frames) (hRlocals : (rest.map fun v => v.category).sum + 10240 ≤ R.locals) (hshort : 13 * names.length + 55 ≤ 10240) (hRcells : cells + 3 ≤ R.cells) (hRslots : slots + (nb + 10) ≤ R.slots) (hlocks : meth.locks = false)
    (k : ∀ (H1 : Heap) (q9 : Addr) (ce : Cell), H.size ≤ H1.size → (∀ q : Nat, q < H.size → H1[q]? = H[q]?) → va_S A s.heap H1 locs → H1[q9]? = some ce → ce.vm = .none → s.vm.findClass cls = some ce.cls → vx_W p l e R s m args below meth c H1 locs (cells + 3) (slots + (nb + 10)) Q (F0 m pc ls rest) q9) :
    vx_Note p l e R s m args below meth c H locs cells slots Q (F0 m pc ls rest) cls text := by
  intro T hT X
  have htr : e.platform.stackTraces = false := (show e.platform.stackTraces = l.stackTraces by rw [X.admits.platform]).trans hl
  have Y := vx_rebase X (R' := { frames := R.frames, locals := R.locals, cells := 3, slots := nb + 10 }) (Nat.le_refl _) (Nat.le_refl _) hRcells hRslots
  have hhp : ((T.setVm s.vm).setFrames (.invoking m args :: below)).heap = H := hT
  have hW0 : s.WarmedH ((T.setVm s.vm).setFrames (.invoking m args :: below)).vm := State.WarmedH.refl s
  have hat' : ∀ w ∈ vx_atM cls names, w.before args ((T.setVm s.vm).setFrames (.invoking m args :: below)) = true := fun w hw => vx_ot_at hW0 rfl (hgood w hw) (hat w hw)
  have hU' : vx_Zq Bundle.tN "UNASSIGNED_STACK" Bundle.steD A ((T.setVm s.vm).setFrames (.invoking m args :: below)) ((T.setVm s.vm).setFrames (.invoking m args :: below)).heap := by rw [hhp]; exact vx_Zq.moved hW0.alike (hU.kept hS.2.1)
  have hN' : vx_Zq Bundle.tN "SUPPRESSED_SENTINEL" Bundle.listD A ((T.setVm s.vm).setFrames (.invoking m args :: below)) ((T.setVm s.vm).setFrames (.invoking m args :: below)).heap := by rw [hhp]; exact vx_Zq.moved hW0.alike (hN.kept hS.2.1)
  obtain ⟨S, q, ce, st, Z, hce, hcl', hv⟩ := vx_vmAt Y hexec htr (cls := cls) (names := names) (text := text) hcls hnames hsoe hoom (vx_own hat' (vx_isRefq hU'.1) (vx_isRefq hN'.1) hU'.2.word hN'.2.word) (fun x hx => nomatch hx) htext
    (by rw [Launch.admits_arrayLengthLimit X.admits]; omega) (by rw [Launch.admits_maxHeapBytes X.admits]; simp only [componentBytes]; omega)
    (g := F0 m pc ls rest) rfl hsize hRframes (by show 2 * 0 + (rest.map fun v => v.category).sum + 10240 ≤ R.locals; omega) hshort (by show 0 + 3 ≤ 3; omega) (by show 0 + (_ + 4 + 6) ≤ nb + 10; omega) hlocks
  obtain ⟨f1, f2⟩ := vx_frame Z.same
  have f1' : H.size ≤ S.heap.size := by rw [← hT]; exact f1
  have f2' : ∀ q : Nat, q < H.size → S.heap[q]? = H[q]? := fun q hq => by
    rw [← hT]
    exact f2 q (by rw [← hT] at hq; exact hq) (fun z hz => nomatch hz)
  have X5 := vx_back9 X Y Z
  have X6 : Stand p l e R s m args below meth c S locs (cells + 3) (slots + (nb + 10)) := { X5 with same := X5.same.mono (by omega) (by omega) }
  obtain ⟨t, a1, b1⟩ := k S.heap q ce f1' f2' ⟨Nat.le_trans hS.1 f1', fun q h1 h2 => (f2' q (Nat.lt_of_lt_of_le h1 hS.1)).trans (hS.2.1 q h1 h2), hS.2.2⟩ hce hv hcl' S rfl X6
  exact ⟨t, st t a1, b1⟩
/-- from the machine's note that NullPointerException is thrown here -/
def vx_NoteN (p : Program) (l : Launch) (e : Env) (R : Room) (s : State) (m : MethodId) (args : Array Value) (below : List Frame) (meth : Method) (c : Code) (H : Heap) (locs : List Loc) (cells slots : Nat) (Q : State → Prop) (g : JFrame) : Prop :=
  ∀ T : State, T.heap = H → Stand p l e R s m args below meth c T locs cells slots → ∃ t, Steps p.tables e below ((T.setTop g).pushFrame (.throwNew "java/lang/NullPointerException" none none)) t ∧ Q t
theorem vx_npe {pc : Nat} {ls : Array Slot} {rest : List Value} {Q : State → Prop} (hexec : p.tables.exec = Jvm.exec) (hl : l.stackTraces = false) {nb : Nat} {A : Nat → Prop}
    (hat : ∀ w ∈ vx_atN nb, w.before args s = true) (hgood : ∀ w ∈ vx_atN nb, vx_ot w = true)
    (hU : vx_Zq Bundle.tN "UNASSIGNED_STACK" Bundle.steD A s s.heap) (hN : vx_Zq Bundle.tN "SUPPRESSED_SENTINEL" Bundle.listD A s s.heap) (hS : va_S A s.heap H locs) (hsize : ls.size = c.maxLocals)
    (hRframes : 7 < R.frames) (hRlocals : (rest.map fun v => v.category).sum + 10240 ≤ R.locals) (hRcells : cells + 1 ≤ R.cells) (hRslots : slots + nb ≤ R.slots) (hlocks : meth.locks = false)
    (k : ∀ (H1 : Heap) (q9 : Addr) (ce : Cell), H.size ≤ H1.size → (∀ q : Nat, q < H.size → H1[q]? = H[q]?) → va_S A s.heap H1 locs → H1[q9]? = some ce → ce.vm = .none → s.vm.findClass "java/lang/NullPointerException" = some ce.cls → vx_W p l e R s m args below meth c H1 locs (cells + 1) (slots + nb) Q (F0 m pc ls rest) q9) :
    vx_NoteN p l e R s m args below meth c H locs cells slots Q (F0 m pc ls rest) := by
  intro T hT X
  have htr : e.platform.stackTraces = false := (show e.platform.stackTraces = l.stackTraces by rw [X.admits.platform]).trans hl
  have Y := vx_rebase X (R' := { frames := R.frames, locals := R.locals, cells := 1, slots := nb }) (Nat.le_refl _) (Nat.le_refl _) hRcells hRslots
  have hhp : ((T.setVm s.vm).setFrames (.invoking m args :: below)).heap = H := hT
  have hW0 : s.WarmedH ((T.setVm s.vm).setFrames (.invoking m args :: below)).vm := State.WarmedH.refl s
  have hat' : ∀ w ∈ vx_atN nb, w.before args ((T.setVm s.vm).setFrames (.invoking m args :: below)) = true := fun w hw => vx_ot_at hW0 rfl (hgood w hw) (hat w hw)
  have hU' : vx_Zq Bundle.tN "UNASSIGNED_STACK" Bundle.steD A ((T.setVm s.vm).setFrames (.invoking m args :: below)) ((T.setVm s.vm).setFrames (.invoking m args :: below)).heap := by rw [hhp]; exact vx_Zq.moved hW0.alike (hU.kept hS.2.1)
  have hN' : vx_Zq Bundle.tN "SUPPRESSED_SENTINEL" Bundle.listD A ((T.setVm s.vm).setFrames (.invoking m args :: below)) ((T.setVm s.vm).setFrames (.invoking m args :: below)).heap := by rw [hhp]; exact vx_Zq.moved hW0.alike (hN.kept hS.2.1)
  obtain ⟨S, q, ce, st, Z, hce, hcl', hv⟩ := vx_npeAt Y hexec htr (n := nb) (vx_own hat' (vx_isRefq hU'.1) (vx_isRefq hN'.1) hU'.2.word hN'.2.word) (fun x hx => nomatch hx)
    (g := F0 m pc ls rest) rfl hsize hRframes (by show 2 * 0 + (rest.map fun v => v.category).sum + 10240 ≤ R.locals; omega) (by show 0 + 1 ≤ 1; omega) (by show 0 + nb ≤ nb; omega) hlocks
  obtain ⟨f1, f2⟩ := vx_frame Z.same
  have f1' : H.size ≤ S.heap.size := by rw [← hT]; exact f1
  have f2' : ∀ q : Nat, q < H.size → S.heap[q]? = H[q]? := fun q hq => by
    rw [← hT]
    exact f2 q (by rw [← hT] at hq; exact hq) (fun z hz => nomatch hz)
  have X5 := vx_back9 X Y Z
  have X6 : Stand p l e R s m args below meth c S locs (cells + 1) (slots + nb) := { X5 with same := X5.same.mono (by omega) (by omega) }
  obtain ⟨t, a1, b1⟩ := k S.heap q ce f1' f2' ⟨Nat.le_trans hS.1 f1', fun q h1 h2 => (f2' q (Nat.lt_of_lt_of_le h1 hS.1)).trans (hS.2.1 q h1 h2), hS.2.2⟩ hce hv hcl' S rfl X6
  exact ⟨t, st t a1, b1⟩
variable {Q : State → Prop} {cc : ByteArray} {pc : Nat} {ls : Array Slot} {rest : List Value}
theorem vx_idivZ (hexec : p.tables.exec = Jvm.exec) (hb : c.code = cc) {a b : Int32} (h0 : b = 0) (d : decode cc pc = .ok (.idiv, 1)) (k : vx_Note p l e R s m args below meth c H locs cells slots Q (F0 m pc ls rest) "java/lang/ArithmeticException" "/ by zero") :
    W p l e R s m args below meth c H locs cells slots Q (F0 m pc ls (.int b :: .int a :: rest)) := by
  intro T hT X
  obtain ⟨t, st, q⟩ := k T hT X
  exact ⟨t, X.idivZero hexec (g := F0 m pc ls (.int b :: .int a :: rest)) rfl (a := a) (rest := rest) (by rw [h0]) (by rw [hb]; exact d) t st, q⟩
theorem vx_iremZ (hexec : p.tables.exec = Jvm.exec) (hb : c.code = cc) {a b : Int32} (h0 : b = 0) (d : decode cc pc = .ok (.irem, 1)) (k : vx_Note p l e R s m args below meth c H locs cells slots Q (F0 m pc ls rest) "java/lang/ArithmeticException" "/ by zero") :
    W p l e R s m args below meth c H locs cells slots Q (F0 m pc ls (.int b :: .int a :: rest)) := by
  intro T hT X
  obtain ⟨t, st, q⟩ := k T hT X
  exact ⟨t, X.iremZero hexec (g := F0 m pc ls (.int b :: .int a :: rest)) rfl (a := a) (rest := rest) (by rw [h0]) (by rw [hb]; exact d) t st, q⟩
theorem vx_ldivZ (hexec : p.tables.exec = Jvm.exec) (hb : c.code = cc) {a b : Int64} (h0 : b = 0) (d : decode cc pc = .ok (.ldiv, 1)) (k : vx_Note p l e R s m args below meth c H locs cells slots Q (F0 m pc ls rest) "java/lang/ArithmeticException" "/ by zero") :
    W p l e R s m args below meth c H locs cells slots Q (F0 m pc ls (.long b :: .long a :: rest)) := by
  intro T hT X
  obtain ⟨t, st, q⟩ := k T hT X
  exact ⟨t, X.ldivZero hexec (g := F0 m pc ls (.long b :: .long a :: rest)) rfl (a := a) (rest := rest) (by rw [h0]) (by rw [hb]; exact d) t st, q⟩
theorem vx_lremZ (hexec : p.tables.exec = Jvm.exec) (hb : c.code = cc) {a b : Int64} (h0 : b = 0) (d : decode cc pc = .ok (.lrem, 1)) (k : vx_Note p l e R s m args below meth c H locs cells slots Q (F0 m pc ls rest) "java/lang/ArithmeticException" "/ by zero") :
    W p l e R s m args below meth c H locs cells slots Q (F0 m pc ls (.long b :: .long a :: rest)) := by
  intro T hT X
  obtain ⟨t, st, q⟩ := k T hT X
  exact ⟨t, X.lremZero hexec (g := F0 m pc ls (.long b :: .long a :: rest)) rfl (a := a) (rest := rest) (by rw [h0]) (by rw [hb]; exact d) t st, q⟩
theorem vx_ialdZ {D : va_G} {cl : List vw_C} {ws : va_W} {tys : List (ClassId × FieldType)} {a : Nat} (hexec : p.tables.exec = Jvm.exec) (hb : c.code = cc) (hK : va_K D cl tys s) (hP : va_P D cl ws H) (q0 t0 : Nat) {cA : ClassId} {n : Nat} {f : Nat → Int32} (ha : ws[q0]? = some (a, .inl (cA, n, .inl f))) (ht : tys[t0]? = some (cA, .int)) {i : Int32} (hout : ¬ vp_in i n) (hdg : decode cc pc = .ok (.iaload, 1))
    (k : ∀ tx : String, tx = (toString "Index " ++ toString i ++ toString " out of bounds for length " ++ toString n : String) → vx_Note p l e R s m args below meth c H locs cells slots Q (F0 m pc ls rest) "java/lang/ArrayIndexOutOfBoundsException" tx) : W p l e R s m args below meth c H locs cells slots Q (F0 m pc ls (.int i :: .ref a :: rest)) := by
  intro T hT X
  obtain ⟨t, st, q⟩ := k _ rfl T hT X
  refine ⟨t, ?_, q⟩
  have h1 := X.ialoadOut hexec (by rw [hT]; exact hP q0 _ ha) ((hK.2 t0 _ ht).1 n (fun j => .int (f j))) (j := i) (by show (i < 0 ∨ (arrV _ _ _).slots.size ≤ _); rw [arrV_size]; exact Classical.byContradiction hout) (g := F0 m pc ls (.int i :: .ref a :: rest)) rfl (rest := rest) rfl (by rw [hb]; exact hdg) t
  simp only [arrV_size] at h1
  exact h1 st
theorem vx_iastZ {D : va_G} {cl : List vw_C} {ws : va_W} {tys : List (ClassId × FieldType)} {a : Nat} (hexec : p.tables.exec = Jvm.exec) (hb : c.code = cc) (hK : va_K D cl tys s) (hP : va_P D cl ws H) (q0 t0 : Nat) {cA : ClassId} {n : Nat} {f : Nat → Int32} (ha : ws[q0]? = some (a, .inl (cA, n, .inl f))) (ht : tys[t0]? = some (cA, .int)) {i : Int32} {x : Int32} (hout : ¬ vp_in i n) (hdg : decode cc pc = .ok (.iastore, 1))
    (k : ∀ tx : String, tx = (toString "Index " ++ toString i ++ toString " out of bounds for length " ++ toString n : String) → vx_Note p l e R s m args below meth c H locs cells slots Q (F0 m pc ls rest) "java/lang/ArrayIndexOutOfBoundsException" tx) : W p l e R s m args below meth c H locs cells slots Q (F0 m pc ls (.int x :: .int i :: .ref a :: rest)) := by
  intro T hT X
  obtain ⟨t, st, q⟩ := k _ rfl T hT X
  refine ⟨t, ?_, q⟩
  have h1 := X.iastoreOut hexec (by rw [hT]; exact hP q0 _ ha) ((hK.2 t0 _ ht).1 n (fun j => .int (f j))) (j := i) (by show (i < 0 ∨ (arrV _ _ _).slots.size ≤ _); rw [arrV_size]; exact Classical.byContradiction hout) (g := F0 m pc ls (.int x :: .int i :: .ref a :: rest)) rfl (rest := rest) rfl (by rw [hb]; exact hdg) t
  simp only [arrV_size] at h1
  exact h1 st
theorem vx_baldZ {D : va_G} {cl : List vw_C} {ws : va_W} {tys : List (ClassId × FieldType)} {a : Nat} (hexec : p.tables.exec = Jvm.exec) (hb : c.code = cc) (hK : va_K D cl tys s) (hP : va_P D cl ws H) (q0 t0 : Nat) {cA : ClassId} {n : Nat} {f : Nat → Int32} (ha : ws[q0]? = some (a, .inl (cA, n, .inl f))) (ht : tys[t0]? = some (cA, .byte)) {i : Int32} (hout : ¬ vp_in i n) (hdg : decode cc pc = .ok (.baload, 1))
    (k : ∀ tx : String, tx = (toString "Index " ++ toString i ++ toString " out of bounds for length " ++ toString n : String) → vx_Note p l e R s m args below meth c H locs cells slots Q (F0 m pc ls rest) "java/lang/ArrayIndexOutOfBoundsException" tx) : W p l e R s m args below meth c H locs cells slots Q (F0 m pc ls (.int i :: .ref a :: rest)) := by
  intro T hT X
  obtain ⟨t, st, q⟩ := k _ rfl T hT X
  refine ⟨t, ?_, q⟩
  have h1 := X.baloadOut hexec (by rw [hT]; exact hP q0 _ ha) ((hK.2 t0 _ ht).1 n (fun j => .int (f j))) (j := i) (by show (i < 0 ∨ (arrV _ _ _).slots.size ≤ _); rw [arrV_size]; exact Classical.byContradiction hout) (g := F0 m pc ls (.int i :: .ref a :: rest)) rfl (rest := rest) rfl (by rw [hb]; exact hdg) t
  simp only [arrV_size] at h1
  exact h1 st
theorem vx_bastZ {D : va_G} {cl : List vw_C} {ws : va_W} {tys : List (ClassId × FieldType)} {a : Nat} (hexec : p.tables.exec = Jvm.exec) (hb : c.code = cc) (hK : va_K D cl tys s) (hP : va_P D cl ws H) (q0 t0 : Nat) {cA : ClassId} {n : Nat} {f : Nat → Int32} (ha : ws[q0]? = some (a, .inl (cA, n, .inl f))) (ht : tys[t0]? = some (cA, .byte)) {i : Int32} {x : Int32} (hout : ¬ vp_in i n) (hdg : decode cc pc = .ok (.bastore, 1))
    (k : ∀ tx : String, tx = (toString "Index " ++ toString i ++ toString " out of bounds for length " ++ toString n : String) → vx_Note p l e R s m args below meth c H locs cells slots Q (F0 m pc ls rest) "java/lang/ArrayIndexOutOfBoundsException" tx) : W p l e R s m args below meth c H locs cells slots Q (F0 m pc ls (.int x :: .int i :: .ref a :: rest)) := by
  intro T hT X
  obtain ⟨t, st, q⟩ := k _ rfl T hT X
  refine ⟨t, ?_, q⟩
  have h1 := X.bastoreOut hexec (by rw [hT]; exact hP q0 _ ha) ((hK.2 t0 _ ht).1 n (fun j => .int (f j))) (j := i) (by show (i < 0 ∨ (arrV _ _ _).slots.size ≤ _); rw [arrV_size]; exact Classical.byContradiction hout) (g := F0 m pc ls (.int x :: .int i :: .ref a :: rest)) rfl (rest := rest) rfl (by rw [hb]; exact hdg) t
  simp only [arrV_size] at h1
  exact h1 st
theorem vx_zaldZ {D : va_G} {cl : List vw_C} {ws : va_W} {tys : List (ClassId × FieldType)} {a : Nat} (hexec : p.tables.exec = Jvm.exec) (hb : c.code = cc) (hK : va_K D cl tys s) (hP : va_P D cl ws H) (q0 t0 : Nat) {cA : ClassId} {n : Nat} {f : Nat → Int32} (ha : ws[q0]? = some (a, .inl (cA, n, .inl f))) (ht : tys[t0]? = some (cA, .boolean)) {i : Int32} (hout : ¬ vp_in i n) (hdg : decode cc pc = .ok (.baload, 1))
    (k : ∀ tx : String, tx = (toString "Index " ++ toString i ++ toString " out of bounds for length " ++ toString n : String) → vx_Note p l e R s m args below meth c H locs cells slots Q (F0 m pc ls rest) "java/lang/ArrayIndexOutOfBoundsException" tx) : W p l e R s m args below meth c H locs cells slots Q (F0 m pc ls (.int i :: .ref a :: rest)) := by
  intro T hT X
  obtain ⟨t, st, q⟩ := k _ rfl T hT X
  refine ⟨t, ?_, q⟩
  have h1 := X.baloadOut hexec (by rw [hT]; exact hP q0 _ ha) ((hK.2 t0 _ ht).1 n (fun j => .int (f j))) (j := i) (by show (i < 0 ∨ (arrV _ _ _).slots.size ≤ _); rw [arrV_size]; exact Classical.byContradiction hout) (g := F0 m pc ls (.int i :: .ref a :: rest)) rfl (rest := rest) rfl (by rw [hb]; exact hdg) t
  simp only [arrV_size] at h1
  exact h1 st
theorem vx_zastZ {D : va_G} {cl : List vw_C} {ws : va_W} {tys : List (ClassId × FieldType)} {a : Nat} (hexec : p.tables.exec = Jvm.exec) (hb : c.code = cc) (hK : va_K D cl tys s) (hP : va_P D cl ws H) (q0 t0 : Nat) {cA : ClassId} {n : Nat} {f : Nat → Int32} (ha : ws[q0]? = some (a, .inl (cA, n, .inl f))) (ht : tys[t0]? = some (cA, .boolean)) {i : Int32} {x : Int32} (hout : ¬ vp_in i n) (hdg : decode cc pc = .ok (.bastore, 1))
    (k : ∀ tx : String, tx = (toString "Index " ++ toString i ++ toString " out of bounds for length " ++ toString n : String) → vx_Note p l e R s m args below meth c H locs cells slots Q (F0 m pc ls rest) "java/lang/ArrayIndexOutOfBoundsException" tx) : W p l e R s m args below meth c H locs cells slots Q (F0 m pc ls (.int x :: .int i :: .ref a :: rest)) := by
  intro T hT X
  obtain ⟨t, st, q⟩ := k _ rfl T hT X
  refine ⟨t, ?_, q⟩
  have h1 := X.bastoreOut hexec (by rw [hT]; exact hP q0 _ ha) ((hK.2 t0 _ ht).1 n (fun j => .int (f j))) (j := i) (by show (i < 0 ∨ (arrV _ _ _).slots.size ≤ _); rw [arrV_size]; exact Classical.byContradiction hout) (g := F0 m pc ls (.int x :: .int i :: .ref a :: rest)) rfl (rest := rest) rfl (by rw [hb]; exact hdg) t
  simp only [arrV_size] at h1
  exact h1 st
theorem vx_caldZ {D : va_G} {cl : List vw_C} {ws : va_W} {tys : List (ClassId × FieldType)} {a : Nat} (hexec : p.tables.exec = Jvm.exec) (hb : c.code = cc) (hK : va_K D cl tys s) (hP : va_P D cl ws H) (q0 t0 : Nat) {cA : ClassId} {n : Nat} {f : Nat → Int32} (ha : ws[q0]? = some (a, .inl (cA, n, .inl f))) (ht : tys[t0]? = some (cA, .char)) {i : Int32} (hout : ¬ vp_in i n) (hdg : decode cc pc = .ok (.caload, 1))
    (k : ∀ tx : String, tx = (toString "Index " ++ toString i ++ toString " out of bounds for length " ++ toString n : String) → vx_Note p l e R s m args below meth c H locs cells slots Q (F0 m pc ls rest) "java/lang/ArrayIndexOutOfBoundsException" tx) : W p l e R s m args below meth c H locs cells slots Q (F0 m pc ls (.int i :: .ref a :: rest)) := by
  intro T hT X
  obtain ⟨t, st, q⟩ := k _ rfl T hT X
  refine ⟨t, ?_, q⟩
  have h1 := X.caloadOut hexec (by rw [hT]; exact hP q0 _ ha) ((hK.2 t0 _ ht).1 n (fun j => .int (f j))) (j := i) (by show (i < 0 ∨ (arrV _ _ _).slots.size ≤ _); rw [arrV_size]; exact Classical.byContradiction hout) (g := F0 m pc ls (.int i :: .ref a :: rest)) rfl (rest := rest) rfl (by rw [hb]; exact hdg) t
  simp only [arrV_size] at h1
  exact h1 st
theorem vx_castZ {D : va_G} {cl : List vw_C} {ws : va_W} {tys : List (ClassId × FieldType)} {a : Nat} (hexec : p.tables.exec = Jvm.exec) (hb : c.code = cc) (hK : va_K D cl tys s) (hP : va_P D cl ws H) (q0 t0 : Nat) {cA : ClassId} {n : Nat} {f : Nat → Int32} (ha : ws[q0]? = some (a, .inl (cA, n, .inl f))) (ht : tys[t0]? = some (cA, .char)) {i : Int32} {x : Int32} (hout : ¬ vp_in i n) (hdg : decode cc pc = .ok (.castore, 1))
    (k : ∀ tx : String, tx = (toString "Index " ++ toString i ++ toString " out of bounds for length " ++ toString n : String) → vx_Note p l e R s m args below meth c H locs cells slots Q (F0 m pc ls rest) "java/lang/ArrayIndexOutOfBoundsException" tx) : W p l e R s m args below meth c H locs cells slots Q (F0 m pc ls (.int x :: .int i :: .ref a :: rest)) := by
  intro T hT X
  obtain ⟨t, st, q⟩ := k _ rfl T hT X
  refine ⟨t, ?_, q⟩
  have h1 := X.castoreOut hexec (by rw [hT]; exact hP q0 _ ha) ((hK.2 t0 _ ht).1 n (fun j => .int (f j))) (j := i) (by show (i < 0 ∨ (arrV _ _ _).slots.size ≤ _); rw [arrV_size]; exact Classical.byContradiction hout) (g := F0 m pc ls (.int x :: .int i :: .ref a :: rest)) rfl (rest := rest) rfl (by rw [hb]; exact hdg) t
  simp only [arrV_size] at h1
  exact h1 st
theorem vx_saldZ {D : va_G} {cl : List vw_C} {ws : va_W} {tys : List (ClassId × FieldType)} {a : Nat} (hexec : p.tables.exec = Jvm.exec) (hb : c.code = cc) (hK : va_K D cl tys s) (hP : va_P D cl ws H) (q0 t0 : Nat) {cA : ClassId} {n : Nat} {f : Nat → Int32} (ha : ws[q0]? = some (a, .inl (cA, n, .inl f))) (ht : tys[t0]? = some (cA, .short)) {i : Int32} (hout : ¬ vp_in i n) (hdg : decode cc pc = .ok (.saload, 1))
    (k : ∀ tx : String, tx = (toString "Index " ++ toString i ++ toString " out of bounds for length " ++ toString n : String) → vx_Note p l e R s m args below meth c H locs cells slots Q (F0 m pc ls rest) "java/lang/ArrayIndexOutOfBoundsException" tx) : W p l e R s m args below meth c H locs cells slots Q (F0 m pc ls (.int i :: .ref a :: rest)) := by
  intro T hT X
  obtain ⟨t, st, q⟩ := k _ rfl T hT X
  refine ⟨t, ?_, q⟩
  have h1 := X.saloadOut hexec (by rw [hT]; exact hP q0 _ ha) ((hK.2 t0 _ ht).1 n (fun j => .int (f j))) (j := i) (by show (i < 0 ∨ (arrV _ _ _).slots.size ≤ _); rw [arrV_size]; exact Classical.byContradiction hout) (g := F0 m pc ls (.int i :: .ref a :: rest)) rfl (rest := rest) rfl (by rw [hb]; exact hdg) t
  simp only [arrV_size] at h1
  exact h1 st
theorem vx_sastZ {D : va_G} {cl : List vw_C} {ws : va_W} {tys : List (ClassId × FieldType)} {a : Nat} (hexec : p.tables.exec = Jvm.exec) (hb : c.code = cc) (hK : va_K D cl tys s) (hP : va_P D cl ws H) (q0 t0 : Nat) {cA : ClassId} {n : Nat} {f : Nat → Int32} (ha : ws[q0]? = some (a, .inl (cA, n, .inl f))) (ht : tys[t0]? = some (cA, .short)) {i : Int32} {x : Int32} (hout : ¬ vp_in i n) (hdg : decode cc pc = .ok (.sastore, 1))
    (k : ∀ tx : String, tx = (toString "Index " ++ toString i ++ toString " out of bounds for length " ++ toString n : String) → vx_Note p l e R s m args below meth c H locs cells slots Q (F0 m pc ls rest) "java/lang/ArrayIndexOutOfBoundsException" tx) : W p l e R s m args below meth c H locs cells slots Q (F0 m pc ls (.int x :: .int i :: .ref a :: rest)) := by
  intro T hT X
  obtain ⟨t, st, q⟩ := k _ rfl T hT X
  refine ⟨t, ?_, q⟩
  have h1 := X.sastoreOut hexec (by rw [hT]; exact hP q0 _ ha) ((hK.2 t0 _ ht).1 n (fun j => .int (f j))) (j := i) (by show (i < 0 ∨ (arrV _ _ _).slots.size ≤ _); rw [arrV_size]; exact Classical.byContradiction hout) (g := F0 m pc ls (.int x :: .int i :: .ref a :: rest)) rfl (rest := rest) rfl (by rw [hb]; exact hdg) t
  simp only [arrV_size] at h1
  exact h1 st
theorem vx_laldZ {D : va_G} {cl : List vw_C} {ws : va_W} {tys : List (ClassId × FieldType)} {a : Nat} (hexec : p.tables.exec = Jvm.exec) (hb : c.code = cc) (hK : va_K D cl tys s) (hP : va_P D cl ws H) (q0 t0 : Nat) {cA : ClassId} {n : Nat} {f : Nat → Int64} (ha : ws[q0]? = some (a, .inl (cA, n, .inr (.inl f)))) (ht : tys[t0]? = some (cA, .long)) {i : Int32} (hout : ¬ vp_in i n) (hdg : decode cc pc = .ok (.laload, 1))
    (k : ∀ tx : String, tx = (toString "Index " ++ toString i ++ toString " out of bounds for length " ++ toString n : String) → vx_Note p l e R s m args below meth c H locs cells slots Q (F0 m pc ls rest) "java/lang/ArrayIndexOutOfBoundsException" tx) : W p l e R s m args below meth c H locs cells slots Q (F0 m pc ls (.int i :: .ref a :: rest)) := by
  intro T hT X
  obtain ⟨t, st, q⟩ := k _ rfl T hT X
  refine ⟨t, ?_, q⟩
  have h1 := X.laloadOut hexec (by rw [hT]; exact hP q0 _ ha) ((hK.2 t0 _ ht).1 n (fun j => .long (f j))) (j := i) (by show (i < 0 ∨ (arrV _ _ _).slots.size ≤ _); rw [arrV_size]; exact Classical.byContradiction hout) (g := F0 m pc ls (.int i :: .ref a :: rest)) rfl (rest := rest) rfl (by rw [hb]; exact hdg) t
  simp only [arrV_size] at h1
  exact h1 st
theorem vx_lastZ {D : va_G} {cl : List vw_C} {ws : va_W} {tys : List (ClassId × FieldType)} {a : Nat} (hexec : p.tables.exec = Jvm.exec) (hb : c.code = cc) (hK : va_K D cl tys s) (hP : va_P D cl ws H) (q0 t0 : Nat) {cA : ClassId} {n : Nat} {f : Nat → Int64} (ha : ws[q0]? = some (a, .inl (cA, n, .inr (.inl f)))) (ht : tys[t0]? = some (cA, .long)) {i : Int32} {x : Int64} (hout : ¬ vp_in i n) (hdg : decode cc pc = .ok (.lastore, 1))
    (k : ∀ tx : String, tx = (toString "Index " ++ toString i ++ toString " out of bounds for length " ++ toString n : String) → vx_Note p l e R s m args below meth c H locs cells slots Q (F0 m pc ls rest) "java/lang/ArrayIndexOutOfBoundsException" tx) : W p l e R s m args below meth c H locs cells slots Q (F0 m pc ls (.long x :: .int i :: .ref a :: rest)) := by
  intro T hT X
  obtain ⟨t, st, q⟩ := k _ rfl T hT X
  refine ⟨t, ?_, q⟩
  have h1 := X.lastoreOut hexec (by rw [hT]; exact hP q0 _ ha) ((hK.2 t0 _ ht).1 n (fun j => .long (f j))) (j := i) (by show (i < 0 ∨ (arrV _ _ _).slots.size ≤ _); rw [arrV_size]; exact Classical.byContradiction hout) (g := F0 m pc ls (.long x :: .int i :: .ref a :: rest)) rfl (rest := rest) rfl (by rw [hb]; exact hdg) t
  simp only [arrV_size] at h1
  exact h1 st
theorem vx_faldZ {D : va_G} {cl : List vw_C} {ws : va_W} {tys : List (ClassId × FieldType)} {a : Nat} (hexec : p.tables.exec = Jvm.exec) (hb : c.code = cc) (hK : va_K D cl tys s) (hP : va_P D cl ws H) (q0 t0 : Nat) {cA : ClassId} {n : Nat} {f : Nat → UInt32} (ha : ws[q0]? = some (a, .inl (cA, n, .inr (.inr (.inl f))))) (ht : tys[t0]? = some (cA, .float)) {i : Int32} (hout : ¬ vp_in i n) (hdg : decode cc pc = .ok (.faload, 1))
    (k : ∀ tx : String, tx = (toString "Index " ++ toString i ++ toString " out of bounds for length " ++ toString n : String) → vx_Note p l e R s m args below meth c H locs cells slots Q (F0 m pc ls rest) "java/lang/ArrayIndexOutOfBoundsException" tx) : W p l e R s m args below meth c H locs cells slots Q (F0 m pc ls (.int i :: .ref a :: rest)) := by
  intro T hT X
  obtain ⟨t, st, q⟩ := k _ rfl T hT X
  refine ⟨t, ?_, q⟩
  have h1 := X.faloadOut hexec (by rw [hT]; exact hP q0 _ ha) ((hK.2 t0 _ ht).1 n (fun j => .float (f j))) (j := i) (by show (i < 0 ∨ (arrV _ _ _).slots.size ≤ _); rw [arrV_size]; exact Classical.byContradiction hout) (g := F0 m pc ls (.int i :: .ref a :: rest)) rfl (rest := rest) rfl (by rw [hb]; exact hdg) t
  simp only [arrV_size] at h1
  exact h1 st
theorem vx_fastZ {D : va_G} {cl : List vw_C} {ws : va_W} {tys : List (ClassId × FieldType)} {a : Nat} (hexec : p.tables.exec = Jvm.exec) (hb : c.code = cc) (hK : va_K D cl tys s) (hP : va_P D cl ws H) (q0 t0 : Nat) {cA : ClassId} {n : Nat} {f : Nat → UInt32} (ha : ws[q0]? = some (a, .inl (cA, n, .inr (.inr (.inl f))))) (ht : tys[t0]? = some (cA, .float)) {i : Int32} {x : UInt32} (hout : ¬ vp_in i n) (hdg : decode cc pc = .ok (.fastore, 1))
    (k : ∀ tx : String, tx = (toString "Index " ++ toString i ++ toString " out of bounds for length " ++ toString n : String) → vx_Note p l e R s m args below meth c H locs cells slots Q (F0 m pc ls rest) "java/lang/ArrayIndexOutOfBoundsException" tx) : W p l e R s m args below meth c H locs cells slots Q (F0 m pc ls (.float x :: .int i :: .ref a :: rest)) := by
  intro T hT X
  obtain ⟨t, st, q⟩ := k _ rfl T hT X
  refine ⟨t, ?_, q⟩
  have h1 := X.fastoreOut hexec (by rw [hT]; exact hP q0 _ ha) ((hK.2 t0 _ ht).1 n (fun j => .float (f j))) (j := i) (by show (i < 0 ∨ (arrV _ _ _).slots.size ≤ _); rw [arrV_size]; exact Classical.byContradiction hout) (g := F0 m pc ls (.float x :: .int i :: .ref a :: rest)) rfl (rest := rest) rfl (by rw [hb]; exact hdg) t
  simp only [arrV_size] at h1
  exact h1 st
theorem vx_daldZ {D : va_G} {cl : List vw_C} {ws : va_W} {tys : List (ClassId × FieldType)} {a : Nat} (hexec : p.tables.exec = Jvm.exec) (hb : c.code = cc) (hK : va_K D cl tys s) (hP : va_P D cl ws H) (q0 t0 : Nat) {cA : ClassId} {n : Nat} {f : Nat → UInt64} (ha : ws[q0]? = some (a, .inl (cA, n, .inr (.inr (.inr (.inl f)))))) (ht : tys[t0]? = some (cA, .double)) {i : Int32} (hout : ¬ vp_in i n) (hdg : decode cc pc = .ok (.daload, 1))
    (k : ∀ tx : String, tx = (toString "Index " ++ toString i ++ toString " out of bounds for length " ++ toString n : String) → vx_Note p l e R s m args below meth c H locs cells slots Q (F0 m pc ls rest) "java/lang/ArrayIndexOutOfBoundsException" tx) : W p l e R s m args below meth c H locs cells slots Q (F0 m pc ls (.int i :: .ref a :: rest)) := by
  intro T hT X
  obtain ⟨t, st, q⟩ := k _ rfl T hT X
  refine ⟨t, ?_, q⟩
  have h1 := X.daloadOut hexec (by rw [hT]; exact hP q0 _ ha) ((hK.2 t0 _ ht).1 n (fun j => .double (f j))) (j := i) (by show (i < 0 ∨ (arrV _ _ _).slots.size ≤ _); rw [arrV_size]; exact Classical.byContradiction hout) (g := F0 m pc ls (.int i :: .ref a :: rest)) rfl (rest := rest) rfl (by rw [hb]; exact hdg) t
  simp only [arrV_size] at h1
  exact h1 st
theorem vx_dastZ {D : va_G} {cl : List vw_C} {ws : va_W} {tys : List (ClassId × FieldType)} {a : Nat} (hexec : p.tables.exec = Jvm.exec) (hb : c.code = cc) (hK : va_K D cl tys s) (hP : va_P D cl ws H) (q0 t0 : Nat) {cA : ClassId} {n : Nat} {f : Nat → UInt64} (ha : ws[q0]? = some (a, .inl (cA, n, .inr (.inr (.inr (.inl f)))))) (ht : tys[t0]? = some (cA, .double)) {i : Int32} {x : UInt64} (hout : ¬ vp_in i n) (hdg : decode cc pc = .ok (.dastore, 1))
    (k : ∀ tx : String, tx = (toString "Index " ++ toString i ++ toString " out of bounds for length " ++ toString n : String) → vx_Note p l e R s m args below meth c H locs cells slots Q (F0 m pc ls rest) "java/lang/ArrayIndexOutOfBoundsException" tx) : W p l e R s m args below meth c H locs cells slots Q (F0 m pc ls (.double x :: .int i :: .ref a :: rest)) := by
  intro T hT X
  obtain ⟨t, st, q⟩ := k _ rfl T hT X
  refine ⟨t, ?_, q⟩
  have h1 := X.dastoreOut hexec (by rw [hT]; exact hP q0 _ ha) ((hK.2 t0 _ ht).1 n (fun j => .double (f j))) (j := i) (by show (i < 0 ∨ (arrV _ _ _).slots.size ≤ _); rw [arrV_size]; exact Classical.byContradiction hout) (g := F0 m pc ls (.double x :: .int i :: .ref a :: rest)) rfl (rest := rest) rfl (by rw [hb]; exact hdg) t
  simp only [arrV_size] at h1
  exact h1 st
theorem vx_arraylengthN (hexec : p.tables.exec = Jvm.exec) (hb : c.code = cc) (hdg : decode cc pc = .ok (.arraylength, 1)) (k : vx_NoteN p l e R s m args below meth c H locs cells slots Q (F0 m pc ls rest)) : W p l e R s m args below meth c H locs cells slots Q (F0 m pc ls (.null :: rest)) := by
  intro T hT X
  obtain ⟨t, st, q⟩ := k T hT X
  exact ⟨t, X.arraylengthNull hexec (g := F0 m pc ls (.null :: rest)) rfl (rest := rest) rfl (by rw [hb]; exact hdg) t st, q⟩
theorem vx_ialoadN (hexec : p.tables.exec = Jvm.exec) (hb : c.code = cc) {i : Int32} (hdg : decode cc pc = .ok (.iaload, 1)) (k : vx_NoteN p l e R s m args below meth c H locs cells slots Q (F0 m pc ls rest)) : W p l e R s m args below meth c H locs cells slots Q (F0 m pc ls (.int i :: .null :: rest)) := by
  intro T hT X
  obtain ⟨t, st, q⟩ := k T hT X
  exact ⟨t, X.ialoadNull hexec (g := F0 m pc ls (.int i :: .null :: rest)) rfl (rest := rest) rfl (by rw [hb]; exact hdg) t st, q⟩
theorem vx_laloadN (hexec : p.tables.exec = Jvm.exec) (hb : c.code = cc) {i : Int32} (hdg : decode cc pc = .ok (.laload, 1)) (k : vx_NoteN p l e R s m args below meth c H locs cells slots Q (F0 m pc ls rest)) : W p l e R s m args below meth c H locs cells slots Q (F0 m pc ls (.int i :: .null :: rest)) := by
  intro T hT X
  obtain ⟨t, st, q⟩ := k T hT X
  exact ⟨t, X.laloadNull hexec (g := F0 m pc ls (.int i :: .null :: rest)) rfl (rest := rest) rfl (by rw [hb]; exact hdg) t st, q⟩
theorem vx_faloadN (hexec : p.tables.exec = Jvm.exec) (hb : c.code = cc) {i : Int32} (hdg : decode cc pc = .ok (.faload, 1)) (k : vx_NoteN p l e R s m args below meth c H locs cells slots Q (F0 m pc ls rest)) : W p l e R s m args below meth c H locs cells slots Q (F0 m pc ls (.int i :: .null :: rest)) := by
  intro T hT X
  obtain ⟨t, st, q⟩ := k T hT X
  exact ⟨t, X.faloadNull hexec (g := F0 m pc ls (.int i :: .null :: rest)) rfl (rest := rest) rfl (by rw [hb]; exact hdg) t st, q⟩
theorem vx_daloadN (hexec : p.tables.exec = Jvm.exec) (hb : c.code = cc) {i : Int32} (hdg : decode cc pc = .ok (.daload, 1)) (k : vx_NoteN p l e R s m args below meth c H locs cells slots Q (F0 m pc ls rest)) : W p l e R s m args below meth c H locs cells slots Q (F0 m pc ls (.int i :: .null :: rest)) := by
  intro T hT X
  obtain ⟨t, st, q⟩ := k T hT X
  exact ⟨t, X.daloadNull hexec (g := F0 m pc ls (.int i :: .null :: rest)) rfl (rest := rest) rfl (by rw [hb]; exact hdg) t st, q⟩
theorem vx_aaloadN (hexec : p.tables.exec = Jvm.exec) (hb : c.code = cc) {i : Int32} (hdg : decode cc pc = .ok (.aaload, 1)) (k : vx_NoteN p l e R s m args below meth c H locs cells slots Q (F0 m pc ls rest)) : W p l e R s m args below meth c H locs cells slots Q (F0 m pc ls (.int i :: .null :: rest)) := by
  intro T hT X
  obtain ⟨t, st, q⟩ := k T hT X
  exact ⟨t, X.aaloadNull hexec (g := F0 m pc ls (.int i :: .null :: rest)) rfl (rest := rest) rfl (by rw [hb]; exact hdg) t st, q⟩
theorem vx_baloadN (hexec : p.tables.exec = Jvm.exec) (hb : c.code = cc) {i : Int32} (hdg : decode cc pc = .ok (.baload, 1)) (k : vx_NoteN p l e R s m args below meth c H locs cells slots Q (F0 m pc ls rest)) : W p l e R s m args below meth c H locs cells slots Q (F0 m pc ls (.int i :: .null :: rest)) := by
  intro T hT X
  obtain ⟨t, st, q⟩ := k T hT X
  exact ⟨t, X.baloadNull hexec (g := F0 m pc ls (.int i :: .null :: rest)) rfl (rest := rest) rfl (by rw [hb]; exact hdg) t st, q⟩
theorem vx_caloadN (hexec : p.tables.exec = Jvm.exec) (hb : c.code = cc) {i : Int32} (hdg : decode cc pc = .ok (.caload, 1)) (k : vx_NoteN p l e R s m args below meth c H locs cells slots Q (F0 m pc ls rest)) : W p l e R s m args below meth c H locs cells slots Q (F0 m pc ls (.int i :: .null :: rest)) := by
  intro T hT X
  obtain ⟨t, st, q⟩ := k T hT X
  exact ⟨t, X.caloadNull hexec (g := F0 m pc ls (.int i :: .null :: rest)) rfl (rest := rest) rfl (by rw [hb]; exact hdg) t st, q⟩
theorem vx_saloadN (hexec : p.tables.exec = Jvm.exec) (hb : c.code = cc) {i : Int32} (hdg : decode cc pc = .ok (.saload, 1)) (k : vx_NoteN p l e R s m args below meth c H locs cells slots Q (F0 m pc ls rest)) : W p l e R s m args below meth c H locs cells slots Q (F0 m pc ls (.int i :: .null :: rest)) := by
  intro T hT X
  obtain ⟨t, st, q⟩ := k T hT X
  exact ⟨t, X.saloadNull hexec (g := F0 m pc ls (.int i :: .null :: rest)) rfl (rest := rest) rfl (by rw [hb]; exact hdg) t st, q⟩
theorem vx_iastoreN (hexec : p.tables.exec = Jvm.exec) (hb : c.code = cc) {x : Int32} {i : Int32} (hdg : decode cc pc = .ok (.iastore, 1)) (k : vx_NoteN p l e R s m args below meth c H locs cells slots Q (F0 m pc ls rest)) : W p l e R s m args below meth c H locs cells slots Q (F0 m pc ls (.int x :: .int i :: .null :: rest)) := by
  intro T hT X
  obtain ⟨t, st, q⟩ := k T hT X
  exact ⟨t, X.iastoreNull hexec (g := F0 m pc ls (.int x :: .int i :: .null :: rest)) rfl (rest := rest) rfl (by rw [hb]; exact hdg) t st, q⟩
theorem vx_lastoreN (hexec : p.tables.exec = Jvm.exec) (hb : c.code = cc) {x : Int64} {i : Int32} (hdg : decode cc pc = .ok (.lastore, 1)) (k : vx_NoteN p l e R s m args below meth c H locs cells slots Q (F0 m pc ls rest)) : W p l e R s m args below meth c H locs cells slots Q (F0 m pc ls (.long x :: .int i :: .null :: rest)) := by
  intro T hT X
  obtain ⟨t, st, q⟩ := k T hT X
  exact ⟨t, X.lastoreNull hexec (g := F0 m pc ls (.long x :: .int i :: .null :: rest)) rfl (rest := rest) rfl (by rw [hb]; exact hdg) t st, q⟩
theorem vx_fastoreN (hexec : p.tables.exec = Jvm.exec) (hb : c.code = cc) {x : UInt32} {i : Int32} (hdg : decode cc pc = .ok (.fastore, 1)) (k : vx_NoteN p l e R s m args below meth c H locs cells slots Q (F0 m pc ls rest)) : W p l e R s m args below meth c H locs cells slots Q (F0 m pc ls (.float x :: .int i :: .null :: rest)) := by
  intro T hT X
  obtain ⟨t, st, q⟩ := k T hT X
  exact ⟨t, X.fastoreNull hexec (g := F0 m pc ls (.float x :: .int i :: .null :: rest)) rfl (rest := rest) rfl (by rw [hb]; exact hdg) t st, q⟩
theorem vx_dastoreN (hexec : p.tables.exec = Jvm.exec) (hb : c.code = cc) {x : UInt64} {i : Int32} (hdg : decode cc pc = .ok (.dastore, 1)) (k : vx_NoteN p l e R s m args below meth c H locs cells slots Q (F0 m pc ls rest)) : W p l e R s m args below meth c H locs cells slots Q (F0 m pc ls (.double x :: .int i :: .null :: rest)) := by
  intro T hT X
  obtain ⟨t, st, q⟩ := k T hT X
  exact ⟨t, X.dastoreNull hexec (g := F0 m pc ls (.double x :: .int i :: .null :: rest)) rfl (rest := rest) rfl (by rw [hb]; exact hdg) t st, q⟩
theorem vx_bastoreN (hexec : p.tables.exec = Jvm.exec) (hb : c.code = cc) {x : Int32} {i : Int32} (hdg : decode cc pc = .ok (.bastore, 1)) (k : vx_NoteN p l e R s m args below meth c H locs cells slots Q (F0 m pc ls rest)) : W p l e R s m args below meth c H locs cells slots Q (F0 m pc ls (.int x :: .int i :: .null :: rest)) := by
  intro T hT X
  obtain ⟨t, st, q⟩ := k T hT X
  exact ⟨t, X.bastoreNull hexec (g := F0 m pc ls (.int x :: .int i :: .null :: rest)) rfl (rest := rest) rfl (by rw [hb]; exact hdg) t st, q⟩
theorem vx_castoreN (hexec : p.tables.exec = Jvm.exec) (hb : c.code = cc) {x : Int32} {i : Int32} (hdg : decode cc pc = .ok (.castore, 1)) (k : vx_NoteN p l e R s m args below meth c H locs cells slots Q (F0 m pc ls rest)) : W p l e R s m args below meth c H locs cells slots Q (F0 m pc ls (.int x :: .int i :: .null :: rest)) := by
  intro T hT X
  obtain ⟨t, st, q⟩ := k T hT X
  exact ⟨t, X.castoreNull hexec (g := F0 m pc ls (.int x :: .int i :: .null :: rest)) rfl (rest := rest) rfl (by rw [hb]; exact hdg) t st, q⟩
theorem vx_sastoreN (hexec : p.tables.exec = Jvm.exec) (hb : c.code = cc) {x : Int32} {i : Int32} (hdg : decode cc pc = .ok (.sastore, 1)) (k : vx_NoteN p l e R s m args below meth c H locs cells slots Q (F0 m pc ls rest)) : W p l e R s m args below meth c H locs cells slots Q (F0 m pc ls (.int x :: .int i :: .null :: rest)) := by
  intro T hT X
  obtain ⟨t, st, q⟩ := k T hT X
  exact ⟨t, X.sastoreNull hexec (g := F0 m pc ls (.int x :: .int i :: .null :: rest)) rfl (rest := rest) rfl (by rw [hb]; exact hdg) t st, q⟩
theorem vx_invokeN {own C : String} {index maxL : Nat} {y : MethodName} {bytes : ByteArray} {ret : Option FieldType} (hexec : p.tables.exec = Jvm.exec) (hb : c.code = cc) (hown : s.vm.findClass own = some m.cls) (hlink : (Cond.methodLink own index y).before args s = true) (hinst : (Cond.instanceMethod y).before args s = true) (hcode : (Cond.code y bytes maxL ret).before args s = true) (hsel : (Cond.selects C y y).before args s = true)
    (hx : y.cls ≠ "java/lang/invoke/MethodHandle" ∧ y.cls ≠ "java/lang/invoke/VarHandle") {As : List Value} (hlen : (parseMethodDescriptor y.desc).map (fun d => d.parameters.length) = some As.length) (hdg : decode cc pc = .ok (.invokevirtual index, 3))
    (k : vx_NoteN p l e R s m args below meth c H locs cells slots Q (F0 m pc ls rest)) {st0 : List Value} (hst : st0 = As.reverse ++ .null :: rest) : W p l e R s m args below meth c H locs cells slots Q (F0 m pc ls st0) := by
  intro T hT X
  obtain ⟨r0, r, hn, hrm, hstR, hsigR⟩ := va_Decl.of hinst hcode
  obtain ⟨c2, r2, m2, q1, q2, q3, q4, kP, hkP, hkPi⟩ := Cond.selects_spec hsel
  cases hn.symm.trans q3
  have hl9 : As.length = r.sig.parameters.length := by
    rw [hsigR] at hlen
    exact (Option.some.inj hlen).symm
  obtain ⟨vm', X1, st1⟩ := X.invokevirtualNull hexec hown hlink hn hrm hstR hkP hkPi hx (g := F0 m pc ls st0) rfl (argsL := As) (rest := rest) hl9 hst (by rw [hb]; exact hdg)
  obtain ⟨t, st, q⟩ := k (T.setVm vm') hT X1
  exact ⟨t, st1 t st, q⟩
theorem vx_newarrayZ {atype : ArrayType} (hexec : p.tables.exec = Jvm.exec) (hb : c.code = cc) {n : Int32} (h0 : n < 0) (hdg : decode cc pc = .ok (.newarray atype, 2)) (k : ∀ tx : String, tx = toString n → vx_Note p l e R s m args below meth c H locs cells slots Q (F0 m pc ls rest) "java/lang/NegativeArraySizeException" tx) : W p l e R s m args below meth c H locs cells slots Q (F0 m pc ls (.int n :: rest)) := by
  intro T hT X
  obtain ⟨t, st, q⟩ := k _ rfl T hT X
  exact ⟨t, X.newarrayNegative hexec (g := F0 m pc ls (.int n :: rest)) rfl h0 (rest := rest) rfl (by rw [hb]; exact hdg) t st, q⟩
end
end VXM
/-! ===== END ===== -/
end
section
def RX0 : String := "PactClocks$Book"
def TX0 : u_T := fun k => match k with
  | 0 => ("PactClocks$Book", "terms", "LPactClocks$Terms;", true)
  | 1 => ("PactClocks$Book", "purses", "[I", true)
  | 2 => ("PactClocks$Book", "states", "[I", true)
  | 3 => ("PactClocks$Book", "left", "[I", true)
  | 4 => ("PactClocks$Book", "stopped", "[I", true)
  | _ => ("PactClocks$Book", "taken", "I", false)
def tyX0 : Nat → FieldType := fun k => match k with
  | 0 => .object "PactClocks$Terms"
  | 1 => .array .int
  | 2 => .array .int
  | 3 => .array .int
  | 4 => .array .int
  | _ => .int
abbrev wsX00 : List Cond := u_ws RX0 TX0 6
theorem nmX0 : ∀ a, a < 6 → ∀ b, b < 6 → a ≠ b → (TX0 a).2.1 ≠ (TX0 b).2.1 := by decide +kernel
theorem tyX0_ok : ∀ k, k < 6 → parseFieldDescriptor (TX0 k).2.2.1 = some (tyX0 k) := by decide +kernel
abbrev cX0_init : ByteArray := prog_2_method_1_code
def yX0_init : MethodName := ⟨RX0, "<init>", "(LPactClocks$Terms;)V"⟩
abbrev cX0_copyFrom : ByteArray := prog_2_method_2_code
def yX0_copyFrom : MethodName := ⟨RX0, "copyFrom", "(LPactClocks$Book;)V"⟩
abbrev cX0_isOpen : ByteArray := prog_2_method_3_code
def yX0_isOpen : MethodName := ⟨RX0, "isOpen", "(I)Z"⟩
abbrev cX0_isGone : ByteArray := prog_2_method_4_code
def yX0_isGone : MethodName := ⟨RX0, "isGone", "(I)Z"⟩
abbrev cX0_price : ByteArray := prog_2_method_5_code
def yX0_price : MethodName := ⟨RX0, "price", "(I)I"⟩
abbrev cX0_canBePaid : ByteArray := prog_2_method_6_code
def yX0_canBePaid : MethodName := ⟨RX0, "canBePaid", "(I)Z"⟩
abbrev cX0_enter : ByteArray := prog_2_method_7_code
def yX0_enter : MethodName := ⟨RX0, "enter", "(I)V"⟩
abbrev cX0_begin : ByteArray := prog_2_method_8_code
def yX0_begin : MethodName := ⟨RX0, "begin", "(I)V"⟩
abbrev cX0_end : ByteArray := prog_2_method_9_code
def yX0_end : MethodName := ⟨RX0, "end", "(II)V"⟩
abbrev cX0_settle : ByteArray := prog_2_method_10_code
def yX0_settle : MethodName := ⟨RX0, "settle", "(I)V"⟩
abbrev cX0_move : ByteArray := prog_2_method_11_code
def yX0_move : MethodName := ⟨RX0, "move", "(II)V"⟩
abbrev cX0_live : ByteArray := prog_2_method_12_code
def yX0_live : MethodName := ⟨RX0, "live", "(I)I"⟩
abbrev cX0_runsOutToday : ByteArray := prog_2_method_13_code
def yX0_runsOutToday : MethodName := ⟨RX0, "runsOutToday", "(I)Z"⟩
abbrev cX0_fail : ByteArray := prog_2_method_14_code
def yX0_fail : MethodName := ⟨RX0, "fail", "(I)V"⟩
abbrev cX0_releaseWaitingBehind : ByteArray := prog_2_method_15_code
def yX0_releaseWaitingBehind : MethodName := ⟨RX0, "releaseWaitingBehind", "(I)I"⟩
def RX1 : String := "PactClocks$Terms"
def TX1 : u_T := fun k => match k with
  | 0 => ("PactClocks$Terms", "debtor", "[I", true)
  | 1 => ("PactClocks$Terms", "creditor", "[I", true)
  | 2 => ("PactClocks$Terms", "amount", "[I", true)
  | 3 => ("PactClocks$Terms", "days", "[I", true)
  | 4 => ("PactClocks$Terms", "cure", "[I", true)
  | 5 => ("PactClocks$Terms", "penalty", "[I", true)
  | 6 => ("PactClocks$Terms", "after", "[I", true)
  | 7 => ("PactClocks$Terms", "depth", "[I", true)
  | 8 => ("PactClocks$Terms", "signs", "[I", true)
  | 9 => ("PactClocks$Terms", "seal", "[I", true)
  | _ => ("PactClocks$Terms", "count", "I", false)
def tyX1 : Nat → FieldType := fun k => match k with
  | 0 => .array .int
  | 1 => .array .int
  | 2 => .array .int
  | 3 => .array .int
  | 4 => .array .int
  | 5 => .array .int
  | 6 => .array .int
  | 7 => .array .int
  | 8 => .array .int
  | 9 => .array .int
  | _ => .int
abbrev wsX10 : List Cond := u_ws RX1 TX1 11
theorem nmX1 : ∀ a, a < 11 → ∀ b, b < 11 → a ≠ b → (TX1 a).2.1 ≠ (TX1 b).2.1 := by decide +kernel
theorem tyX1_ok : ∀ k, k < 11 → parseFieldDescriptor (TX1 k).2.2.1 = some (tyX1 k) := by decide +kernel
abbrev cX1_init : ByteArray := prog_3_method_1_code
def yX1_init : MethodName := ⟨RX1, "<init>", "()V"⟩
abbrev cX1_add : ByteArray := prog_3_method_2_code
def yX1_add : MethodName := ⟨RX1, "add", "(IIIIIII)I"⟩
abbrev cX1_keepText : ByteArray := prog_3_method_3_code
def yX1_keepText : MethodName := ⟨RX1, "keepText", "(I)V"⟩
abbrev cX1_sealFor : ByteArray := prog_3_method_4_code
def yX1_sealFor : MethodName := ⟨RX1, "sealFor", "(Ljava/lang/StringBuilder;)I"⟩
abbrev cX1_hangsSomehowOn : ByteArray := prog_3_method_5_code
def yX1_hangsSomehowOn : MethodName := ⟨RX1, "hangsSomehowOn", "(II)Z"⟩
def RX2 : String := "PactClocks"
def TX2 : u_T := fun k => match k with
  | 0 => ("PactClocks", "terms", "LPactClocks$Terms;", true)
  | 1 => ("PactClocks", "book", "LPactClocks$Book;", true)
  | 2 => ("PactClocks", "ahead", "LPactClocks$Book;", true)
  | 3 => ("PactClocks", "partyCount", "I", false)
  | _ => ("PactClocks", "today", "I", false)
def tyX2 : Nat → FieldType := fun k => match k with
  | 0 => .object "PactClocks$Terms"
  | 1 => .object "PactClocks$Book"
  | 2 => .object "PactClocks$Book"
  | 3 => .int
  | _ => .int
abbrev wsX20 : List Cond := u_ws RX2 TX2 5
theorem nmX2 : ∀ a, a < 5 → ∀ b, b < 5 → a ≠ b → (TX2 a).2.1 ≠ (TX2 b).2.1 := by decide +kernel
theorem tyX2_ok : ∀ k, k < 5 → parseFieldDescriptor (TX2 k).2.2.1 = some (tyX2 k) := by decide +kernel
abbrev cX2_init : ByteArray := prog_1_method_1_code
def yX2_init : MethodName := ⟨RX2, "<init>", "()V"⟩
abbrev cX2_addParty : ByteArray := prog_1_method_2_code
def yX2_addParty : MethodName := ⟨RX2, "addParty", "(I)I"⟩
abbrev cX2_addDuty : ByteArray := prog_1_method_3_code
def yX2_addDuty : MethodName := ⟨RX2, "addDuty", "(IIIIIII)I"⟩
abbrev cX2_pay : ByteArray := prog_1_method_4_code
def yX2_pay : MethodName := ⟨RX2, "pay", "(I)I"⟩
abbrev cX2_release : ByteArray := prog_1_method_5_code
def yX2_release : MethodName := ⟨RX2, "release", "(I)I"⟩
abbrev cX2_stop : ByteArray := prog_1_method_6_code
def yX2_stop : MethodName := ⟨RX2, "stop", "(II)I"⟩
abbrev cX2_give : ByteArray := prog_1_method_7_code
def yX2_give : MethodName := ⟨RX2, "give", "(II)I"⟩
abbrev cX2_pass : ByteArray := prog_1_method_8_code
def yX2_pass : MethodName := ⟨RX2, "pass", "(I)I"⟩
abbrev cX2_day : ByteArray := prog_1_method_9_code
def yX2_day : MethodName := ⟨RX2, "day", "()I"⟩
abbrev cX2_parties : ByteArray := prog_1_method_10_code
def yX2_parties : MethodName := ⟨RX2, "parties", "()I"⟩
abbrev cX2_duties : ByteArray := prog_1_method_11_code
def yX2_duties : MethodName := ⟨RX2, "duties", "()I"⟩
abbrev cX2_inState : ByteArray := prog_1_method_12_code
def yX2_inState : MethodName := ⟨RX2, "inState", "(I)I"⟩
abbrev cX2_purseOf : ByteArray := prog_1_method_13_code
def yX2_purseOf : MethodName := ⟨RX2, "purseOf", "(I)I"⟩
abbrev cX2_penalties : ByteArray := prog_1_method_14_code
def yX2_penalties : MethodName := ⟨RX2, "penalties", "()I"⟩
abbrev cX2_stateOf : ByteArray := prog_1_method_15_code
def yX2_stateOf : MethodName := ⟨RX2, "stateOf", "(I)I"⟩
abbrev cX2_daysLeft : ByteArray := prog_1_method_16_code
def yX2_daysLeft : MethodName := ⟨RX2, "daysLeft", "(I)I"⟩
abbrev cX2_stoppedFor : ByteArray := prog_1_method_17_code
def yX2_stoppedFor : MethodName := ⟨RX2, "stoppedFor", "(I)I"⟩
abbrev cX2_priceOf : ByteArray := prog_1_method_18_code
def yX2_priceOf : MethodName := ⟨RX2, "priceOf", "(I)I"⟩
abbrev cX2_hanging : ByteArray := prog_1_method_19_code
def yX2_hanging : MethodName := ⟨RX2, "hanging", "(I)I"⟩
abbrev cX2_depthOf : ByteArray := prog_1_method_20_code
def yX2_depthOf : MethodName := ⟨RX2, "depthOf", "(I)I"⟩
abbrev cX2_textLength : ByteArray := prog_1_method_21_code
def yX2_textLength : MethodName := ⟨RX2, "textLength", "(I)I"⟩
abbrev cX2_sealOf : ByteArray := prog_1_method_22_code
def yX2_sealOf : MethodName := ⟨RX2, "sealOf", "(I)I"⟩
abbrev cX2_owes : ByteArray := prog_1_method_23_code
def yX2_owes : MethodName := ⟨RX2, "owes", "(I)I"⟩
abbrev cX2_balance : ByteArray := prog_1_method_24_code
def yX2_balance : MethodName := ⟨RX2, "balance", "(II)I"⟩
abbrev cX2_weakest : ByteArray := prog_1_method_25_code
def yX2_weakest : MethodName := ⟨RX2, "weakest", "()I"⟩
abbrev cX2_daysUntilFailed : ByteArray := prog_1_method_26_code
def yX2_daysUntilFailed : MethodName := ⟨RX2, "daysUntilFailed", "(I)I"⟩
abbrev cX2_purseIn : ByteArray := prog_1_method_27_code
def yX2_purseIn : MethodName := ⟨RX2, "purseIn", "(II)I"⟩
abbrev cX2_bestToPay : ByteArray := prog_1_method_28_code
def yX2_bestToPay : MethodName := ⟨RX2, "bestToPay", "(I)I"⟩
abbrev cX2_meanPurse : ByteArray := prog_1_method_29_code
def yX2_meanPurse : MethodName := ⟨RX2, "meanPurse", "()D"⟩
abbrev cX2_digest : ByteArray := prog_1_method_30_code
def yX2_digest : MethodName := ⟨RX2, "digest", "()J"⟩
abbrev cX2_owedBetween : ByteArray := prog_1_method_31_code
def yX2_owedBetween : MethodName := ⟨RX2, "owedBetween", "(II)I"⟩
abbrev cX2_coinsAhead : ByteArray := prog_1_method_32_code
def yX2_coinsAhead : MethodName := ⟨RX2, "coinsAhead", "(III)I"⟩
abbrev cX2_requireParty : ByteArray := prog_1_method_33_code
def yX2_requireParty : MethodName := ⟨RX2, "requireParty", "(I)V"⟩
abbrev cX2_requireDuty : ByteArray := prog_1_method_34_code
def yX2_requireDuty : MethodName := ⟨RX2, "requireDuty", "(I)V"⟩
abbrev cX2_requireWithin : ByteArray := prog_1_method_35_code
def yX2_requireWithin : MethodName := ⟨RX2, "requireWithin", "(III)V"⟩
def RX3 : String := "PactClocksModel"
def TX3 : u_T := fun k => match k with
  | 0 => ("PactClocksModel", "thrown", "I", false)
  | 1 => ("PactClocksModel", "parties", "I", false)
  | 2 => ("PactClocksModel", "duties", "I", false)
  | 3 => ("PactClocksModel", "debtor", "[I", true)
  | 4 => ("PactClocksModel", "creditor", "[I", true)
  | 5 => ("PactClocksModel", "amount", "[I", true)
  | 6 => ("PactClocksModel", "days", "[I", true)
  | 7 => ("PactClocksModel", "cure", "[I", true)
  | 8 => ("PactClocksModel", "penalty", "[I", true)
  | 9 => ("PactClocksModel", "after", "[I", true)
  | 10 => ("PactClocksModel", "now", "[I", true)
  | 11 => ("PactClocksModel", "kept", "[I", true)
  | _ => ("PactClocksModel", "text", "Ljava/lang/StringBuilder;", true)
def tyX3 : Nat → FieldType := fun k => match k with
  | 0 => .int
  | 1 => .int
  | 2 => .int
  | 3 => .array .int
  | 4 => .array .int
  | 5 => .array .int
  | 6 => .array .int
  | 7 => .array .int
  | 8 => .array .int
  | 9 => .array .int
  | 10 => .array .int
  | 11 => .array .int
  | _ => .object "java/lang/StringBuilder"
abbrev wsX30 : List Cond := u_ws RX3 TX3 13
theorem nmX3 : ∀ a, a < 13 → ∀ b, b < 13 → a ≠ b → (TX3 a).2.1 ≠ (TX3 b).2.1 := by decide +kernel
theorem tyX3_ok : ∀ k, k < 13 → parseFieldDescriptor (TX3 k).2.2.1 = some (tyX3 k) := by decide +kernel
abbrev cX3_init : ByteArray := prog_5_method_1_code
def yX3_init : MethodName := ⟨RX3, "<init>", "()V"⟩
abbrev cX3_thrown : ByteArray := prog_5_method_2_code
def yX3_thrown : MethodName := ⟨RX3, "thrown", "()I"⟩
abbrev cX3_no : ByteArray := prog_5_method_3_code
def yX3_no : MethodName := ⟨RX3, "no", "(I)I"⟩
abbrev cX3_ok : ByteArray := prog_5_method_4_code
def yX3_ok : MethodName := ⟨RX3, "ok", "(I)I"⟩
abbrev cX3_isFrom : ByteArray := prog_5_method_5_code
def yX3_isFrom : MethodName := ⟨RX3, "isFrom", "(III)Z"⟩
abbrev cX3_isParty : ByteArray := prog_5_method_6_code
def yX3_isParty : MethodName := ⟨RX3, "isParty", "(I)Z"⟩
abbrev cX3_isDuty : ByteArray := prog_5_method_7_code
def yX3_isDuty : MethodName := ⟨RX3, "isDuty", "(I)Z"⟩
abbrev cX3_keep : ByteArray := prog_5_method_8_code
def yX3_keep : MethodName := ⟨RX3, "keep", "()V"⟩
abbrev cX3_bringBack : ByteArray := prog_5_method_9_code
def yX3_bringBack : MethodName := ⟨RX3, "bringBack", "()V"⟩
abbrev cX3_state : ByteArray := prog_5_method_10_code
def yX3_state : MethodName := ⟨RX3, "state", "(I)I"⟩
abbrev cX3_isOpen : ByteArray := prog_5_method_11_code
def yX3_isOpen : MethodName := ⟨RX3, "isOpen", "(I)Z"⟩
abbrev cX3_price : ByteArray := prog_5_method_12_code
def yX3_price : MethodName := ⟨RX3, "price", "(I)I"⟩
abbrev cX3_run : ByteArray := prog_5_method_13_code
def yX3_run : MethodName := ⟨RX3, "run", "(I)V"⟩
abbrev cX3_end : ByteArray := prog_5_method_14_code
def yX3_end : MethodName := ⟨RX3, "end", "(II)V"⟩
abbrev cX3_move : ByteArray := prog_5_method_15_code
def yX3_move : MethodName := ⟨RX3, "move", "(III)V"⟩
abbrev cX3_releaseBehind : ByteArray := prog_5_method_16_code
def yX3_releaseBehind : MethodName := ⟨RX3, "releaseBehind", "(I)I"⟩
abbrev cX3_paid : ByteArray := prog_5_method_17_code
def yX3_paid : MethodName := ⟨RX3, "paid", "(I)V"⟩
abbrev cX3_fail : ByteArray := prog_5_method_18_code
def yX3_fail : MethodName := ⟨RX3, "fail", "(I)V"⟩
abbrev cX3_tick : ByteArray := prog_5_method_19_code
def yX3_tick : MethodName := ⟨RX3, "tick", "(I)V"⟩
abbrev cX3_dayOn : ByteArray := prog_5_method_20_code
def yX3_dayOn : MethodName := ⟨RX3, "dayOn", "()V"⟩
abbrev cX3_daysOn : ByteArray := prog_5_method_21_code
def yX3_daysOn : MethodName := ⟨RX3, "daysOn", "(I)V"⟩
abbrev cX3_count : ByteArray := prog_5_method_22_code
def yX3_count : MethodName := ⟨RX3, "count", "(I)I"⟩
abbrev cX3_addParty : ByteArray := prog_5_method_23_code
def yX3_addParty : MethodName := ⟨RX3, "addParty", "(I)I"⟩
abbrev cX3_addDuty : ByteArray := prog_5_method_24_code
def yX3_addDuty : MethodName := ⟨RX3, "addDuty", "(IIIIIII)I"⟩
abbrev cX3_canPay : ByteArray := prog_5_method_25_code
def yX3_canPay : MethodName := ⟨RX3, "canPay", "(I)Z"⟩
abbrev cX3_pay : ByteArray := prog_5_method_26_code
def yX3_pay : MethodName := ⟨RX3, "pay", "(I)I"⟩
abbrev cX3_release : ByteArray := prog_5_method_27_code
def yX3_release : MethodName := ⟨RX3, "release", "(I)I"⟩
abbrev cX3_stop : ByteArray := prog_5_method_28_code
def yX3_stop : MethodName := ⟨RX3, "stop", "(II)I"⟩
abbrev cX3_give : ByteArray := prog_5_method_29_code
def yX3_give : MethodName := ⟨RX3, "give", "(II)I"⟩
abbrev cX3_pass : ByteArray := prog_5_method_30_code
def yX3_pass : MethodName := ⟨RX3, "pass", "(I)I"⟩
abbrev cX3_day : ByteArray := prog_5_method_31_code
def yX3_day : MethodName := ⟨RX3, "day", "()I"⟩
abbrev cX3_parties : ByteArray := prog_5_method_32_code
def yX3_parties : MethodName := ⟨RX3, "parties", "()I"⟩
abbrev cX3_duties : ByteArray := prog_5_method_33_code
def yX3_duties : MethodName := ⟨RX3, "duties", "()I"⟩
abbrev cX3_inState : ByteArray := prog_5_method_34_code
def yX3_inState : MethodName := ⟨RX3, "inState", "(I)I"⟩
abbrev cX3_purseOf : ByteArray := prog_5_method_35_code
def yX3_purseOf : MethodName := ⟨RX3, "purseOf", "(I)I"⟩
abbrev cX3_penalties : ByteArray := prog_5_method_36_code
def yX3_penalties : MethodName := ⟨RX3, "penalties", "()I"⟩
abbrev cX3_ofDuty : ByteArray := prog_5_method_37_code
def yX3_ofDuty : MethodName := ⟨RX3, "ofDuty", "(II)I"⟩
abbrev cX3_stateOf : ByteArray := prog_5_method_38_code
def yX3_stateOf : MethodName := ⟨RX3, "stateOf", "(I)I"⟩
abbrev cX3_daysLeft : ByteArray := prog_5_method_39_code
def yX3_daysLeft : MethodName := ⟨RX3, "daysLeft", "(I)I"⟩
abbrev cX3_stoppedFor : ByteArray := prog_5_method_40_code
def yX3_stoppedFor : MethodName := ⟨RX3, "stoppedFor", "(I)I"⟩
abbrev cX3_priceOf : ByteArray := prog_5_method_41_code
def yX3_priceOf : MethodName := ⟨RX3, "priceOf", "(I)I"⟩
abbrev cX3_hangsOn : ByteArray := prog_5_method_42_code
def yX3_hangsOn : MethodName := ⟨RX3, "hangsOn", "(II)Z"⟩
abbrev cX3_behind : ByteArray := prog_5_method_43_code
def yX3_behind : MethodName := ⟨RX3, "behind", "(I)I"⟩
abbrev cX3_hanging : ByteArray := prog_5_method_44_code
def yX3_hanging : MethodName := ⟨RX3, "hanging", "(I)I"⟩
abbrev cX3_depth : ByteArray := prog_5_method_45_code
def yX3_depth : MethodName := ⟨RX3, "depth", "(I)I"⟩
abbrev cX3_depthOf : ByteArray := prog_5_method_46_code
def yX3_depthOf : MethodName := ⟨RX3, "depthOf", "(I)I"⟩
abbrev cX3_write : ByteArray := prog_5_method_47_code
def yX3_write : MethodName := ⟨RX3, "write", "(I)V"⟩
abbrev cX3_written : ByteArray := prog_5_method_48_code
def yX3_written : MethodName := ⟨RX3, "written", "(I)I"⟩
abbrev cX3_textLength : ByteArray := prog_5_method_49_code
def yX3_textLength : MethodName := ⟨RX3, "textLength", "(I)I"⟩
abbrev cX3_seal : ByteArray := prog_5_method_50_code
def yX3_seal : MethodName := ⟨RX3, "seal", "(I)I"⟩
abbrev cX3_sealOf : ByteArray := prog_5_method_51_code
def yX3_sealOf : MethodName := ⟨RX3, "sealOf", "(I)I"⟩
abbrev cX3_owed : ByteArray := prog_5_method_52_code
def yX3_owed : MethodName := ⟨RX3, "owed", "(I)I"⟩
abbrev cX3_owes : ByteArray := prog_5_method_53_code
def yX3_owes : MethodName := ⟨RX3, "owes", "(I)I"⟩
abbrev cX3_between : ByteArray := prog_5_method_54_code
def yX3_between : MethodName := ⟨RX3, "between", "(II)I"⟩
abbrev cX3_balance : ByteArray := prog_5_method_55_code
def yX3_balance : MethodName := ⟨RX3, "balance", "(II)I"⟩
abbrev cX3_weak : ByteArray := prog_5_method_56_code
def yX3_weak : MethodName := ⟨RX3, "weak", "()I"⟩
abbrev cX3_weakest : ByteArray := prog_5_method_57_code
def yX3_weakest : MethodName := ⟨RX3, "weakest", "()I"⟩
abbrev cX3_untilFailed : ByteArray := prog_5_method_58_code
def yX3_untilFailed : MethodName := ⟨RX3, "untilFailed", "(I)I"⟩
abbrev cX3_daysUntilFailed : ByteArray := prog_5_method_59_code
def yX3_daysUntilFailed : MethodName := ⟨RX3, "daysUntilFailed", "(I)I"⟩
abbrev cX3_later : ByteArray := prog_5_method_60_code
def yX3_later : MethodName := ⟨RX3, "later", "(II)I"⟩
abbrev cX3_purseIn : ByteArray := prog_5_method_61_code
def yX3_purseIn : MethodName := ⟨RX3, "purseIn", "(II)I"⟩
abbrev cX3_best : ByteArray := prog_5_method_62_code
def yX3_best : MethodName := ⟨RX3, "best", "(I)I"⟩
abbrev cX3_bestToPay : ByteArray := prog_5_method_63_code
def yX3_bestToPay : MethodName := ⟨RX3, "bestToPay", "(I)I"⟩
abbrev cX3_meanPurse : ByteArray := prog_5_method_64_code
def yX3_meanPurse : MethodName := ⟨RX3, "meanPurse", "()D"⟩
abbrev cX3_digest : ByteArray := prog_5_method_65_code
def yX3_digest : MethodName := ⟨RX3, "digest", "()J"⟩
def RJ5 : String := "java/lang/AbstractStringBuilder"
def TJ5 : u_T := fun k => match k with
  | _ => ("", "", "", false)
def tyJ5 : Nat → FieldType := fun k => match k with
  | _ => .int
abbrev wsJ50 : List Cond := u_ws RJ5 TJ5 0
theorem nmJ5 : ∀ a, a < 0 → ∀ b, b < 0 → a ≠ b → (TJ5 a).2.1 ≠ (TJ5 b).2.1 := by decide +kernel
theorem tyJ5_ok : ∀ k, k < 0 → parseFieldDescriptor (TJ5 k).2.2.1 = some (tyJ5 k) := by decide +kernel
abbrev cJ5_init_d00df : ByteArray := prog_6_method_2_code
def yJ5_init_d00df : MethodName := ⟨RJ5, "<init>", "(I)V"⟩
abbrev cJ5_length_8abf5 : ByteArray := prog_6_method_6_code
def yJ5_length_8abf5 : MethodName := ⟨RJ5, "length", "()I"⟩
abbrev cJ5_ensureCapacityInternal_d00df : ByteArray := prog_6_method_9_code
def yJ5_ensureCapacityInternal_d00df : MethodName := ⟨RJ5, "ensureCapacityInternal", "(I)V"⟩
abbrev cJ5_newCapacity_0f7a4 : ByteArray := prog_6_method_10_code
def yJ5_newCapacity_0f7a4 : MethodName := ⟨RJ5, "newCapacity", "(I)I"⟩
abbrev cJ5_inflate_da8c8 : ByteArray := prog_6_method_11_code
def yJ5_inflate_da8c8 : MethodName := ⟨RJ5, "inflate", "()V"⟩
abbrev cJ5_setLength_d00df : ByteArray := prog_6_method_13_code
def yJ5_setLength_d00df : MethodName := ⟨RJ5, "setLength", "(I)V"⟩
abbrev cJ5_charAt_5068e : ByteArray := prog_6_method_14_code
def yJ5_charAt_5068e : MethodName := ⟨RJ5, "charAt", "(I)C"⟩
abbrev cJ5_append_cf1ce : ByteArray := prog_6_method_22_code
def yJ5_append_cf1ce : MethodName := ⟨RJ5, "append", "(Ljava/lang/String;)Ljava/lang/AbstractStringBuilder;"⟩
abbrev cJ5_appendNull_278bc : ByteArray := prog_6_method_26_code
def yJ5_appendNull_278bc : MethodName := ⟨RJ5, "appendNull", "()Ljava/lang/AbstractStringBuilder;"⟩
abbrev cJ5_append_3fe6f : ByteArray := prog_6_method_31_code
def yJ5_append_3fe6f : MethodName := ⟨RJ5, "append", "(C)Ljava/lang/AbstractStringBuilder;"⟩
abbrev cJ5_append_c97b9 : ByteArray := prog_6_method_32_code
def yJ5_append_c97b9 : MethodName := ⟨RJ5, "append", "(I)Ljava/lang/AbstractStringBuilder;"⟩
abbrev cJ5_getValue_6d5f1 : ByteArray := prog_6_method_64_code
def yJ5_getValue_6d5f1 : MethodName := ⟨RJ5, "getValue", "()[B"⟩
abbrev cJ5_isLatin1_aae02 : ByteArray := prog_6_method_68_code
def yJ5_isLatin1_aae02 : MethodName := ⟨RJ5, "isLatin1", "()Z"⟩
abbrev cJ5_inflateIfNeededFor_a7421 : ByteArray := prog_6_method_71_code
def yJ5_inflateIfNeededFor_a7421 : MethodName := ⟨RJ5, "inflateIfNeededFor", "(Ljava/lang/String;)V"⟩
abbrev cJ5_putStringAt_47b60 : ByteArray := prog_6_method_73_code
def yJ5_putStringAt_47b60 : MethodName := ⟨RJ5, "putStringAt", "(ILjava/lang/String;)V"⟩
def RJx00060 : String := "java/lang/ArrayIndexOutOfBoundsException"
def TJx00060 : u_T := fun k => match k with
  | 0 => ("java/lang/Throwable", "cause", "Ljava/lang/Throwable;", false)
  | 1 => ("java/lang/Throwable", "stackTrace", "[Ljava/lang/StackTraceElement;", false)
  | 2 => ("java/lang/Throwable", "suppressedExceptions", "Ljava/util/List;", false)
  | 3 => ("java/lang/Throwable", "detailMessage", "Ljava/lang/String;", false)
  | 4 => ("java/lang/Throwable", "backtrace", "Ljava/lang/Object;", false)
  | _ => ("java/lang/Throwable", "depth", "I", false)
def tyJx00060 : Nat → FieldType := fun k => match k with
  | 0 => .object "java/lang/Throwable"
  | 1 => .array (.object "java/lang/StackTraceElement")
  | 2 => .object "java/util/List"
  | 3 => .object "java/lang/String"
  | 4 => .object "java/lang/Object"
  | _ => .int
abbrev wsJx000600 : List Cond := u_ws RJx00060 TJx00060 6
theorem nmJx00060 : ∀ a, a < 6 → ∀ b, b < 6 → a ≠ b → (TJx00060 a).2.1 ≠ (TJx00060 b).2.1 := by decide +kernel
theorem tyJx00060_ok : ∀ k, k < 6 → parseFieldDescriptor (TJx00060 k).2.2.1 = some (tyJx00060 k) := by decide +kernel
abbrev cJx00060_init_d00df : ByteArray := prog_7_method_3_code
def yJx00060_init_d00df : MethodName := ⟨RJx00060, "<init>", "(I)V"⟩
def RJx8e188 : String := "java/lang/Cloneable"
def TJx8e188 : u_T := fun k => match k with
  | _ => ("", "", "", false)
def tyJx8e188 : Nat → FieldType := fun k => match k with
  | _ => .int
abbrev wsJx8e1880 : List Cond := u_ws RJx8e188 TJx8e188 0
theorem nmJx8e188 : ∀ a, a < 0 → ∀ b, b < 0 → a ≠ b → (TJx8e188 a).2.1 ≠ (TJx8e188 b).2.1 := by decide +kernel
theorem tyJx8e188_ok : ∀ k, k < 0 → parseFieldDescriptor (TJx8e188 k).2.2.1 = some (tyJx8e188 k) := by decide +kernel
def RJ6 : String := "java/lang/Integer"
def TJ6 : u_T := fun k => match k with
  | _ => ("", "", "", false)
def tyJ6 : Nat → FieldType := fun k => match k with
  | _ => .int
abbrev wsJ60 : List Cond := u_ws RJ6 TJ6 0
theorem nmJ6 : ∀ a, a < 0 → ∀ b, b < 0 → a ≠ b → (TJ6 a).2.1 ≠ (TJ6 b).2.1 := by decide +kernel
theorem tyJ6_ok : ∀ k, k < 0 → parseFieldDescriptor (TJ6 k).2.2.1 = some (tyJ6 k) := by decide +kernel
abbrev cJ6_getChars_ba4f3 : ByteArray := prog_13_method_12_code
def yJ6_getChars_ba4f3 : MethodName := ⟨RJ6, "getChars", "(II[B)I"⟩
abbrev cJ6_stringSize_0f7a4 : ByteArray := prog_13_method_13_code
def yJ6_stringSize_0f7a4 : MethodName := ⟨RJ6, "stringSize", "(I)I"⟩
def RJ9 : String := "java/lang/Math"
def TJ9 : u_T := fun k => match k with
  | _ => ("", "", "", false)
def tyJ9 : Nat → FieldType := fun k => match k with
  | _ => .int
abbrev wsJ90 : List Cond := u_ws RJ9 TJ9 0
theorem nmJ9 : ∀ a, a < 0 → ∀ b, b < 0 → a ≠ b → (TJ9 a).2.1 ≠ (TJ9 b).2.1 := by decide +kernel
theorem tyJ9_ok : ∀ k, k < 0 → parseFieldDescriptor (TJ9 k).2.2.1 = some (tyJ9 k) := by decide +kernel
abbrev cJ9_max_7cf53 : ByteArray := prog_14_method_65_code
def yJ9_max_7cf53 : MethodName := ⟨RJ9, "max", "(II)I"⟩
abbrev cJ9_min_7cf53 : ByteArray := prog_14_method_69_code
def yJ9_min_7cf53 : MethodName := ⟨RJ9, "min", "(II)I"⟩
def RJ0 : String := "java/lang/String"
def TJ0 : u_T := fun k => match k with
  | 0 => ("java/lang/String", "value", "[B", true)
  | 1 => ("java/lang/String", "coder", "B", true)
  | 2 => ("java/lang/String", "hash", "I", false)
  | _ => ("java/lang/String", "hashIsZero", "Z", false)
def tyJ0 : Nat → FieldType := fun k => match k with
  | 0 => .array .byte
  | 1 => .byte
  | 2 => .int
  | _ => .boolean
abbrev wsJ00 : List Cond := u_ws RJ0 TJ0 4
theorem nmJ0 : ∀ a, a < 4 → ∀ b, b < 4 → a ≠ b → (TJ0 a).2.1 ≠ (TJ0 b).2.1 := by decide +kernel
theorem tyJ0_ok : ∀ k, k < 4 → parseFieldDescriptor (TJ0 k).2.2.1 = some (tyJ0 k) := by decide +kernel
abbrev cJ0_init_81219 : ByteArray := prog_16_method_53_code
def yJ0_init_81219 : MethodName := ⟨RJ0, "<init>", "(Ljava/lang/StringBuilder;)V"⟩
abbrev cJ0_length_8abf5 : ByteArray := prog_16_method_54_code
def yJ0_length_8abf5 : MethodName := ⟨RJ0, "length", "()I"⟩
abbrev cJ0_getBytes_840e7 : ByteArray := prog_16_method_147_code
def yJ0_getBytes_840e7 : MethodName := ⟨RJ0, "getBytes", "([BIB)V"⟩
abbrev cJ0_init_db425 : ByteArray := prog_16_method_150_code
def yJ0_init_db425 : MethodName := ⟨RJ0, "<init>", "(Ljava/lang/AbstractStringBuilder;Ljava/lang/Void;)V"⟩
abbrev cJ0_coder_7d493 : ByteArray := prog_16_method_152_code
def yJ0_coder_7d493 : MethodName := ⟨RJ0, "coder", "()B"⟩
abbrev cJ0_checkIndex_df160 : ByteArray := prog_16_method_155_code
def yJ0_checkIndex_df160 : MethodName := ⟨RJ0, "checkIndex", "(II)V"⟩
abbrev cJ0_checkBoundsOffCount_cabcc : ByteArray := prog_16_method_157_code
def yJ0_checkBoundsOffCount_cabcc : MethodName := ⟨RJ0, "checkBoundsOffCount", "(III)I"⟩
abbrev cJ0_checkBoundsBeginEnd_23922 : ByteArray := prog_16_method_158_code
def yJ0_checkBoundsBeginEnd_23922 : MethodName := ⟨RJ0, "checkBoundsBeginEnd", "(III)V"⟩
def RJ4 : String := "java/lang/StringBuilder"
def TJ4 : u_T := fun k => match k with
  | 0 => ("java/lang/AbstractStringBuilder", "value", "[B", false)
  | 1 => ("java/lang/AbstractStringBuilder", "coder", "B", false)
  | 2 => ("java/lang/AbstractStringBuilder", "maybeLatin1", "Z", false)
  | _ => ("java/lang/AbstractStringBuilder", "count", "I", false)
def tyJ4 : Nat → FieldType := fun k => match k with
  | 0 => .array .byte
  | 1 => .byte
  | 2 => .boolean
  | _ => .int
abbrev wsJ40 : List Cond := u_ws RJ4 TJ4 4
theorem nmJ4 : ∀ a, a < 4 → ∀ b, b < 4 → a ≠ b → (TJ4 a).2.1 ≠ (TJ4 b).2.1 := by decide +kernel
theorem tyJ4_ok : ∀ k, k < 4 → parseFieldDescriptor (TJ4 k).2.2.1 = some (tyJ4 k) := by decide +kernel
abbrev cJ4_init_da8c8 : ByteArray := prog_17_method_1_code
def yJ4_init_da8c8 : MethodName := ⟨RJ4, "<init>", "()V"⟩
abbrev cJ4_append_15ec4 : ByteArray := prog_17_method_7_code
def yJ4_append_15ec4 : MethodName := ⟨RJ4, "append", "(Ljava/lang/String;)Ljava/lang/StringBuilder;"⟩
abbrev cJ4_append_cf468 : ByteArray := prog_17_method_14_code
def yJ4_append_cf468 : MethodName := ⟨RJ4, "append", "(C)Ljava/lang/StringBuilder;"⟩
abbrev cJ4_append_bf812 : ByteArray := prog_17_method_15_code
def yJ4_append_bf812 : MethodName := ⟨RJ4, "append", "(I)Ljava/lang/StringBuilder;"⟩
abbrev cJ4_toString_0e30d : ByteArray := prog_17_method_42_code
def yJ4_toString_0e30d : MethodName := ⟨RJ4, "toString", "()Ljava/lang/String;"⟩
abbrev cJ4_charAt_5068e : ByteArray := prog_17_method_88_code
def yJ4_charAt_5068e : MethodName := ⟨RJ4, "charAt", "(I)C"⟩
abbrev cJ4_setLength_d00df : ByteArray := prog_17_method_89_code
def yJ4_setLength_d00df : MethodName := ⟨RJ4, "setLength", "(I)V"⟩
abbrev cJ4_length_8abf5 : ByteArray := prog_17_method_93_code
def yJ4_length_8abf5 : MethodName := ⟨RJ4, "length", "()I"⟩
def RJx7c733 : String := "java/lang/StringIndexOutOfBoundsException"
def TJx7c733 : u_T := fun k => match k with
  | 0 => ("java/lang/Throwable", "backtrace", "Ljava/lang/Object;", false)
  | 1 => ("java/lang/Throwable", "detailMessage", "Ljava/lang/String;", false)
  | 2 => ("java/lang/Throwable", "cause", "Ljava/lang/Throwable;", false)
  | 3 => ("java/lang/Throwable", "stackTrace", "[Ljava/lang/StackTraceElement;", false)
  | 4 => ("java/lang/Throwable", "depth", "I", false)
  | _ => ("java/lang/Throwable", "suppressedExceptions", "Ljava/util/List;", false)
def tyJx7c733 : Nat → FieldType := fun k => match k with
  | 0 => .object "java/lang/Object"
  | 1 => .object "java/lang/String"
  | 2 => .object "java/lang/Throwable"
  | 3 => .array (.object "java/lang/StackTraceElement")
  | 4 => .int
  | _ => .object "java/util/List"
abbrev wsJx7c7330 : List Cond := u_ws RJx7c733 TJx7c733 6
theorem nmJx7c733 : ∀ a, a < 6 → ∀ b, b < 6 → a ≠ b → (TJx7c733 a).2.1 ≠ (TJx7c733 b).2.1 := by decide +kernel
theorem tyJx7c733_ok : ∀ k, k < 6 → parseFieldDescriptor (TJx7c733 k).2.2.1 = some (tyJx7c733 k) := by decide +kernel
abbrev cJx7c733_init_d00df : ByteArray := prog_18_method_3_code
def yJx7c733_init_d00df : MethodName := ⟨RJx7c733, "<init>", "(I)V"⟩
def RJ1 : String := "java/lang/StringLatin1"
def TJ1 : u_T := fun k => match k with
  | _ => ("", "", "", false)
def tyJ1 : Nat → FieldType := fun k => match k with
  | _ => .int
abbrev wsJ10 : List Cond := u_ws RJ1 TJ1 0
theorem nmJ1 : ∀ a, a < 0 → ∀ b, b < 0 → a ≠ b → (TJ1 a).2.1 ≠ (TJ1 b).2.1 := by decide +kernel
theorem tyJ1_ok : ∀ k, k < 0 → parseFieldDescriptor (TJ1 k).2.2.1 = some (tyJ1 k) := by decide +kernel
abbrev cJ1_canEncode_fc78d : ByteArray := prog_19_method_3_code
def yJ1_canEncode_fc78d : MethodName := ⟨RJ1, "canEncode", "(C)Z"⟩
abbrev cJ1_fillNull_b72d1 : ByteArray := prog_19_method_48_code
def yJ1_fillNull_b72d1 : MethodName := ⟨RJ1, "fillNull", "([BII)V"⟩
abbrev cJ1_inflate_0e8fd : ByteArray := prog_19_method_50_code
def yJ1_inflate_0e8fd : MethodName := ⟨RJ1, "inflate", "([BI[BII)V"⟩
def RJ2 : String := "java/lang/StringUTF16"
def TJ2 : u_T := fun k => match k with
  | _ => ("", "", "", false)
def tyJ2 : Nat → FieldType := fun k => match k with
  | _ => .int
abbrev wsJ20 : List Cond := u_ws RJ2 TJ2 0
theorem nmJ2 : ∀ a, a < 0 → ∀ b, b < 0 → a ≠ b → (TJ2 a).2.1 ≠ (TJ2 b).2.1 := by decide +kernel
theorem tyJ2_ok : ∀ k, k < 0 → parseFieldDescriptor (TJ2 k).2.2.1 = some (tyJ2 k) := by decide +kernel
abbrev cJ2_newBytesFor_77867 : ByteArray := prog_20_method_2_code
def yJ2_newBytesFor_77867 : MethodName := ⟨RJ2, "newBytesFor", "(I)[B"⟩
abbrev cJ2_newBytesLength_0f7a4 : ByteArray := prog_20_method_3_code
def yJ2_newBytesLength_0f7a4 : MethodName := ⟨RJ2, "newBytesLength", "(I)I"⟩
abbrev cJ2_putChar_b72d1 : ByteArray := prog_20_method_4_code
def yJ2_putChar_b72d1 : MethodName := ⟨RJ2, "putChar", "([BII)V"⟩
abbrev cJ2_getChar_3b067 : ByteArray := prog_20_method_5_code
def yJ2_getChar_3b067 : MethodName := ⟨RJ2, "getChar", "([BI)C"⟩
abbrev cJ2_length_9d52b : ByteArray := prog_20_method_6_code
def yJ2_length_9d52b : MethodName := ⟨RJ2, "length", "([B)I"⟩
abbrev cJ2_coderFromArrayLen_85cad : ByteArray := prog_20_method_15_code
def yJ2_coderFromArrayLen_85cad : MethodName := ⟨RJ2, "coderFromArrayLen", "([BI)B"⟩
abbrev cJ2_compress_39247 : ByteArray := prog_20_method_17_code
def yJ2_compress_39247 : MethodName := ⟨RJ2, "compress", "([BII)[B"⟩
abbrev cJ2_compress_5af95 : ByteArray := prog_20_method_22_code
def yJ2_compress_5af95 : MethodName := ⟨RJ2, "compress", "([BI[BII)I"⟩
abbrev cJ2_fillNull_b72d1 : ByteArray := prog_20_method_70_code
def yJ2_fillNull_b72d1 : MethodName := ⟨RJ2, "fillNull", "([BII)V"⟩
abbrev cJ2_putCharSB_b72d1 : ByteArray := prog_20_method_71_code
def yJ2_putCharSB_b72d1 : MethodName := ⟨RJ2, "putCharSB", "([BII)V"⟩
abbrev cJ2_getChars_46870 : ByteArray := prog_20_method_77_code
def yJ2_getChars_46870 : MethodName := ⟨RJ2, "getChars", "(III[B)I"⟩
abbrev cJ2_putCharsAt_cd4e5 : ByteArray := prog_20_method_81_code
def yJ2_putCharsAt_cd4e5 : MethodName := ⟨RJ2, "putCharsAt", "([BICCCC)I"⟩
abbrev cJ2_inflate_0e8fd : ByteArray := prog_20_method_86_code
def yJ2_inflate_0e8fd : MethodName := ⟨RJ2, "inflate", "([BI[BII)V"⟩
abbrev cJ2_getChars_ba4f3 : ByteArray := prog_20_method_89_code
def yJ2_getChars_ba4f3 : MethodName := ⟨RJ2, "getChars", "(II[B)I"⟩
abbrev cJ2_checkIndex_2214a : ByteArray := prog_20_method_91_code
def yJ2_checkIndex_2214a : MethodName := ⟨RJ2, "checkIndex", "(I[B)V"⟩
abbrev cJ2_checkBoundsBeginEnd_d044e : ByteArray := prog_20_method_93_code
def yJ2_checkBoundsBeginEnd_d044e : MethodName := ⟨RJ2, "checkBoundsBeginEnd", "(II[B)V"⟩
abbrev cJ2_checkBoundsOffCount_d044e : ByteArray := prog_20_method_94_code
def yJ2_checkBoundsOffCount_d044e : MethodName := ⟨RJ2, "checkBoundsOffCount", "(II[B)V"⟩
def RJ10 : String := "java/lang/System"
def TJ10 : u_T := fun k => match k with
  | _ => ("", "", "", false)
def tyJ10 : Nat → FieldType := fun k => match k with
  | _ => .int
abbrev wsJ100 : List Cond := u_ws RJ10 TJ10 0
theorem nmJ10 : ∀ a, a < 0 → ∀ b, b < 0 → a ≠ b → (TJ10 a).2.1 ≠ (TJ10 b).2.1 := by decide +kernel
theorem tyJ10_ok : ∀ k, k < 0 → parseFieldDescriptor (TJ10 k).2.2.1 = some (tyJ10 k) := by decide +kernel
def RJ7 : String := "java/util/Arrays"
def TJ7 : u_T := fun k => match k with
  | _ => ("", "", "", false)
def tyJ7 : Nat → FieldType := fun k => match k with
  | _ => .int
abbrev wsJ70 : List Cond := u_ws RJ7 TJ7 0
theorem nmJ7 : ∀ a, a < 0 → ∀ b, b < 0 → a ≠ b → (TJ7 a).2.1 ≠ (TJ7 b).2.1 := by decide +kernel
theorem tyJ7_ok : ∀ k, k < 0 → parseFieldDescriptor (TJ7 k).2.2.1 = some (tyJ7 k) := by decide +kernel
abbrev cJ7_rangeCheck_23922 : ByteArray := prog_23_method_30_code
def yJ7_rangeCheck_23922 : MethodName := ⟨RJ7, "rangeCheck", "(III)V"⟩
abbrev cJ7_fill_eb02e : ByteArray := prog_23_method_110_code
def yJ7_fill_eb02e : MethodName := ⟨RJ7, "fill", "([BIIB)V"⟩
abbrev cJ7_copyOf_9075b : ByteArray := prog_23_method_121_code
def yJ7_copyOf_9075b : MethodName := ⟨RJ7, "copyOf", "([BI)[B"⟩
abbrev cJ7_checkLength_df160 : ByteArray := prog_23_method_131_code
def yJ7_checkLength_df160 : MethodName := ⟨RJ7, "checkLength", "(II)V"⟩
abbrev cJ7_copyOfRange_39247 : ByteArray := prog_23_method_132_code
def yJ7_copyOfRange_39247 : MethodName := ⟨RJ7, "copyOfRange", "([BII)[B"⟩
abbrev cJ7_copyOfRangeByte_39247 : ByteArray := prog_23_method_133_code
def yJ7_copyOfRangeByte_39247 : MethodName := ⟨RJ7, "copyOfRangeByte", "([BII)[B"⟩
def RJ8 : String := "jdk/internal/util/ArraysSupport"
def TJ8 : u_T := fun k => match k with
  | _ => ("", "", "", false)
def tyJ8 : Nat → FieldType := fun k => match k with
  | _ => .int
abbrev wsJ80 : List Cond := u_ws RJ8 TJ8 0
theorem nmJ8 : ∀ a, a < 0 → ∀ b, b < 0 → a ≠ b → (TJ8 a).2.1 ≠ (TJ8 b).2.1 := by decide +kernel
theorem tyJ8_ok : ∀ k, k < 0 → parseFieldDescriptor (TJ8 k).2.2.1 = some (tyJ8 k) := by decide +kernel
abbrev cJ8_newLength_cabcc : ByteArray := prog_24_method_27_code
def yJ8_newLength_cabcc : MethodName := ⟨RJ8, "newLength", "(III)I"⟩
abbrev cJ8_hugeLength_7cf53 : ByteArray := prog_24_method_28_code
def yJ8_hugeLength_7cf53 : MethodName := ⟨RJ8, "hugeLength", "(II)I"⟩
def RJ3 : String := "jdk/internal/util/Preconditions"
def TJ3 : u_T := fun k => match k with
  | _ => ("", "", "", false)
def tyJ3 : Nat → FieldType := fun k => match k with
  | _ => .int
abbrev wsJ30 : List Cond := u_ws RJ3 TJ3 0
theorem nmJ3 : ∀ a, a < 0 → ∀ b, b < 0 → a ≠ b → (TJ3 a).2.1 ≠ (TJ3 b).2.1 := by decide +kernel
theorem tyJ3_ok : ∀ k, k < 0 → parseFieldDescriptor (TJ3 k).2.2.1 = some (tyJ3 k) := by decide +kernel
abbrev cJ3_checkIndex_8e157 : ByteArray := prog_25_method_11_code
def yJ3_checkIndex_8e157 : MethodName := ⟨RJ3, "checkIndex", "(IILjava/util/function/BiFunction;)I"⟩
abbrev cJ3_checkFromToIndex_8c36e : ByteArray := prog_25_method_12_code
def yJ3_checkFromToIndex_8c36e : MethodName := ⟨RJ3, "checkFromToIndex", "(IIILjava/util/function/BiFunction;)I"⟩
abbrev cJ3_checkFromIndexSize_8c36e : ByteArray := prog_25_method_13_code
def yJ3_checkFromIndexSize_8c36e : MethodName := ⟨RJ3, "checkFromIndexSize", "(IIILjava/util/function/BiFunction;)I"⟩
def RL : String := "PactClocksLaw"
abbrev cL_addParty : ByteArray := method_3_code
def yL_addParty : MethodName := ⟨RL, "addParty", "(LPactClocks;I[J)I"⟩
abbrev cL_addDuty : ByteArray := method_4_code
def yL_addDuty : MethodName := ⟨RL, "addDuty", "(LPactClocks;IIIIIII[J)I"⟩
abbrev cL_pay : ByteArray := method_5_code
def yL_pay : MethodName := ⟨RL, "pay", "(LPactClocks;I[J)I"⟩
abbrev cL_release : ByteArray := method_6_code
def yL_release : MethodName := ⟨RL, "release", "(LPactClocks;I[J)I"⟩
abbrev cL_stop : ByteArray := method_7_code
def yL_stop : MethodName := ⟨RL, "stop", "(LPactClocks;II[J)I"⟩
abbrev cL_give : ByteArray := method_8_code
def yL_give : MethodName := ⟨RL, "give", "(LPactClocks;II[J)I"⟩
abbrev cL_pass : ByteArray := method_9_code
def yL_pass : MethodName := ⟨RL, "pass", "(LPactClocks;I[J)I"⟩
abbrev cL_inState : ByteArray := method_10_code
def yL_inState : MethodName := ⟨RL, "inState", "(LPactClocks;I[J)I"⟩
abbrev cL_purseOf : ByteArray := method_11_code
def yL_purseOf : MethodName := ⟨RL, "purseOf", "(LPactClocks;I[J)I"⟩
abbrev cL_stateOf : ByteArray := method_12_code
def yL_stateOf : MethodName := ⟨RL, "stateOf", "(LPactClocks;I[J)I"⟩
abbrev cL_daysLeft : ByteArray := method_13_code
def yL_daysLeft : MethodName := ⟨RL, "daysLeft", "(LPactClocks;I[J)I"⟩
abbrev cL_stoppedFor : ByteArray := method_14_code
def yL_stoppedFor : MethodName := ⟨RL, "stoppedFor", "(LPactClocks;I[J)I"⟩
abbrev cL_priceOf : ByteArray := method_15_code
def yL_priceOf : MethodName := ⟨RL, "priceOf", "(LPactClocks;I[J)I"⟩
abbrev cL_hanging : ByteArray := method_16_code
def yL_hanging : MethodName := ⟨RL, "hanging", "(LPactClocks;I[J)I"⟩
abbrev cL_depthOf : ByteArray := method_17_code
def yL_depthOf : MethodName := ⟨RL, "depthOf", "(LPactClocks;I[J)I"⟩
abbrev cL_textLength : ByteArray := method_18_code
def yL_textLength : MethodName := ⟨RL, "textLength", "(LPactClocks;I[J)I"⟩
abbrev cL_sealOf : ByteArray := method_19_code
def yL_sealOf : MethodName := ⟨RL, "sealOf", "(LPactClocks;I[J)I"⟩
abbrev cL_owes : ByteArray := method_20_code
def yL_owes : MethodName := ⟨RL, "owes", "(LPactClocks;I[J)I"⟩
abbrev cL_balance : ByteArray := method_21_code
def yL_balance : MethodName := ⟨RL, "balance", "(LPactClocks;II[J)I"⟩
abbrev cL_daysUntilFailed : ByteArray := method_22_code
def yL_daysUntilFailed : MethodName := ⟨RL, "daysUntilFailed", "(LPactClocks;I[J)I"⟩
abbrev cL_purseIn : ByteArray := method_23_code
def yL_purseIn : MethodName := ⟨RL, "purseIn", "(LPactClocks;II[J)I"⟩
abbrev cL_bestToPay : ByteArray := method_24_code
def yL_bestToPay : MethodName := ⟨RL, "bestToPay", "(LPactClocks;I[J)I"⟩
abbrev cL_law : ByteArray := code
def yL_law : MethodName := ⟨RL, "law", "([I)Z"⟩
abbrev vwCl : List vw_C := [(RJ0, TJ0, 4), (RJ4, TJ4, 4), (RJx00060, TJx00060, 6), (RJx7c733, TJx7c733, 6), (RX0, TX0, 6), (RX1, TX1, 11), (RX2, TX2, 5), (RX3, TX3, 13)]
end
section
theorem dX0_init_0 : decode cX0_init 0 = .ok (.aload_n 0, 1) := by decide +kernel
theorem dX0_init_1 : decode cX0_init 1 = .ok (.invokespecial 3, 3) := by decide +kernel
theorem dX0_init_4 : decode cX0_init 4 = .ok (.aload_n 0, 1) := by decide +kernel
theorem dX0_init_5 : decode cX0_init 5 = .ok (.bipush 6, 2) := by decide +kernel
theorem dX0_init_7 : decode cX0_init 7 = .ok (.newarray .int, 2) := by decide +kernel
theorem dX0_init_9 : decode cX0_init 9 = .ok (.putfield 9, 3) := by decide +kernel
theorem dX0_init_12 : decode cX0_init 12 = .ok (.aload_n 0, 1) := by decide +kernel
theorem dX0_init_13 : decode cX0_init 13 = .ok (.bipush 20, 2) := by decide +kernel
theorem dX0_init_15 : decode cX0_init 15 = .ok (.newarray .int, 2) := by decide +kernel
theorem dX0_init_17 : decode cX0_init 17 = .ok (.putfield 15, 3) := by decide +kernel
theorem dX0_init_20 : decode cX0_init 20 = .ok (.aload_n 0, 1) := by decide +kernel
theorem dX0_init_21 : decode cX0_init 21 = .ok (.bipush 20, 2) := by decide +kernel
theorem dX0_init_23 : decode cX0_init 23 = .ok (.newarray .int, 2) := by decide +kernel
theorem dX0_init_25 : decode cX0_init 25 = .ok (.putfield 18, 3) := by decide +kernel
theorem dX0_init_28 : decode cX0_init 28 = .ok (.aload_n 0, 1) := by decide +kernel
theorem dX0_init_29 : decode cX0_init 29 = .ok (.bipush 20, 2) := by decide +kernel
theorem dX0_init_31 : decode cX0_init 31 = .ok (.newarray .int, 2) := by decide +kernel
theorem dX0_init_33 : decode cX0_init 33 = .ok (.putfield 21, 3) := by decide +kernel
theorem dX0_init_36 : decode cX0_init 36 = .ok (.aload_n 0, 1) := by decide +kernel
theorem dX0_init_37 : decode cX0_init 37 = .ok (.aload_n 1, 1) := by decide +kernel
theorem dX0_init_38 : decode cX0_init 38 = .ok (.putfield 24, 3) := by decide +kernel
theorem dX0_init_41 : decode cX0_init 41 = .ok (.return_, 1) := by decide +kernel
theorem dX0_copyFrom_0 : decode cX0_copyFrom 0 = .ok (.aload_n 1, 1) := by decide +kernel
theorem dX0_copyFrom_1 : decode cX0_copyFrom 1 = .ok (.getfield 9, 3) := by decide +kernel
theorem dX0_copyFrom_4 : decode cX0_copyFrom 4 = .ok (.iconst 0, 1) := by decide +kernel
theorem dX0_copyFrom_5 : decode cX0_copyFrom 5 = .ok (.aload_n 0, 1) := by decide +kernel
theorem dX0_copyFrom_6 : decode cX0_copyFrom 6 = .ok (.getfield 9, 3) := by decide +kernel
theorem dX0_copyFrom_9 : decode cX0_copyFrom 9 = .ok (.iconst 0, 1) := by decide +kernel
theorem dX0_copyFrom_10 : decode cX0_copyFrom 10 = .ok (.bipush 6, 2) := by decide +kernel
theorem dX0_copyFrom_12 : decode cX0_copyFrom 12 = .ok (.invokestatic 28, 3) := by decide +kernel
theorem dX0_copyFrom_15 : decode cX0_copyFrom 15 = .ok (.aload_n 1, 1) := by decide +kernel
theorem dX0_copyFrom_16 : decode cX0_copyFrom 16 = .ok (.getfield 15, 3) := by decide +kernel
theorem dX0_copyFrom_19 : decode cX0_copyFrom 19 = .ok (.iconst 0, 1) := by decide +kernel
theorem dX0_copyFrom_20 : decode cX0_copyFrom 20 = .ok (.aload_n 0, 1) := by decide +kernel
theorem dX0_copyFrom_21 : decode cX0_copyFrom 21 = .ok (.getfield 15, 3) := by decide +kernel
theorem dX0_copyFrom_24 : decode cX0_copyFrom 24 = .ok (.iconst 0, 1) := by decide +kernel
theorem dX0_copyFrom_25 : decode cX0_copyFrom 25 = .ok (.bipush 20, 2) := by decide +kernel
theorem dX0_copyFrom_27 : decode cX0_copyFrom 27 = .ok (.invokestatic 28, 3) := by decide +kernel
theorem dX0_copyFrom_30 : decode cX0_copyFrom 30 = .ok (.aload_n 1, 1) := by decide +kernel
theorem dX0_copyFrom_31 : decode cX0_copyFrom 31 = .ok (.getfield 18, 3) := by decide +kernel
theorem dX0_copyFrom_34 : decode cX0_copyFrom 34 = .ok (.iconst 0, 1) := by decide +kernel
theorem dX0_copyFrom_35 : decode cX0_copyFrom 35 = .ok (.aload_n 0, 1) := by decide +kernel
theorem dX0_copyFrom_36 : decode cX0_copyFrom 36 = .ok (.getfield 18, 3) := by decide +kernel
theorem dX0_copyFrom_39 : decode cX0_copyFrom 39 = .ok (.iconst 0, 1) := by decide +kernel
theorem dX0_copyFrom_40 : decode cX0_copyFrom 40 = .ok (.bipush 20, 2) := by decide +kernel
theorem dX0_copyFrom_42 : decode cX0_copyFrom 42 = .ok (.invokestatic 28, 3) := by decide +kernel
theorem dX0_copyFrom_45 : decode cX0_copyFrom 45 = .ok (.aload_n 1, 1) := by decide +kernel
theorem dX0_copyFrom_46 : decode cX0_copyFrom 46 = .ok (.getfield 21, 3) := by decide +kernel
theorem dX0_copyFrom_49 : decode cX0_copyFrom 49 = .ok (.iconst 0, 1) := by decide +kernel
theorem dX0_copyFrom_50 : decode cX0_copyFrom 50 = .ok (.aload_n 0, 1) := by decide +kernel
theorem dX0_copyFrom_51 : decode cX0_copyFrom 51 = .ok (.getfield 21, 3) := by decide +kernel
theorem dX0_copyFrom_54 : decode cX0_copyFrom 54 = .ok (.iconst 0, 1) := by decide +kernel
theorem dX0_copyFrom_55 : decode cX0_copyFrom 55 = .ok (.bipush 20, 2) := by decide +kernel
theorem dX0_copyFrom_57 : decode cX0_copyFrom 57 = .ok (.invokestatic 28, 3) := by decide +kernel
theorem dX0_copyFrom_60 : decode cX0_copyFrom 60 = .ok (.aload_n 0, 1) := by decide +kernel
theorem dX0_copyFrom_61 : decode cX0_copyFrom 61 = .ok (.aload_n 1, 1) := by decide +kernel
theorem dX0_copyFrom_62 : decode cX0_copyFrom 62 = .ok (.getfield 34, 3) := by decide +kernel
theorem dX0_copyFrom_65 : decode cX0_copyFrom 65 = .ok (.putfield 34, 3) := by decide +kernel
theorem dX0_copyFrom_68 : decode cX0_copyFrom 68 = .ok (.return_, 1) := by decide +kernel
theorem dX0_isOpen_0 : decode cX0_isOpen 0 = .ok (.aload_n 0, 1) := by decide +kernel
theorem dX0_isOpen_1 : decode cX0_isOpen 1 = .ok (.getfield 15, 3) := by decide +kernel
theorem dX0_isOpen_4 : decode cX0_isOpen 4 = .ok (.iload_n 1, 1) := by decide +kernel
theorem dX0_isOpen_5 : decode cX0_isOpen 5 = .ok (.iaload, 1) := by decide +kernel
theorem dX0_isOpen_6 : decode cX0_isOpen 6 = .ok (.iconst 1, 1) := by decide +kernel
theorem dX0_isOpen_7 : decode cX0_isOpen 7 = .ok (.if_icmp .eq 13, 3) := by decide +kernel
theorem dX0_isOpen_10 : decode cX0_isOpen 10 = .ok (.aload_n 0, 1) := by decide +kernel
theorem dX0_isOpen_11 : decode cX0_isOpen 11 = .ok (.getfield 15, 3) := by decide +kernel
theorem dX0_isOpen_14 : decode cX0_isOpen 14 = .ok (.iload_n 1, 1) := by decide +kernel
theorem dX0_isOpen_15 : decode cX0_isOpen 15 = .ok (.iaload, 1) := by decide +kernel
theorem dX0_isOpen_16 : decode cX0_isOpen 16 = .ok (.iconst 2, 1) := by decide +kernel
theorem dX0_isOpen_17 : decode cX0_isOpen 17 = .ok (.if_icmp .ne 7, 3) := by decide +kernel
theorem dX0_isOpen_20 : decode cX0_isOpen 20 = .ok (.iconst 1, 1) := by decide +kernel
theorem dX0_isOpen_21 : decode cX0_isOpen 21 = .ok (.goto 4, 3) := by decide +kernel
theorem dX0_isOpen_24 : decode cX0_isOpen 24 = .ok (.iconst 0, 1) := by decide +kernel
theorem dX0_isOpen_25 : decode cX0_isOpen 25 = .ok (.ireturn, 1) := by decide +kernel
theorem dX0_isGone_0 : decode cX0_isGone 0 = .ok (.iload_n 1, 1) := by decide +kernel
theorem dX0_isGone_1 : decode cX0_isGone 1 = .ok (.iconst (-1), 1) := by decide +kernel
theorem dX0_isGone_2 : decode cX0_isGone 2 = .ok (.if_icmp .eq 27, 3) := by decide +kernel
theorem dX0_isGone_5 : decode cX0_isGone 5 = .ok (.aload_n 0, 1) := by decide +kernel
theorem dX0_isGone_6 : decode cX0_isGone 6 = .ok (.getfield 15, 3) := by decide +kernel
theorem dX0_isGone_9 : decode cX0_isGone 9 = .ok (.iload_n 1, 1) := by decide +kernel
theorem dX0_isGone_10 : decode cX0_isGone 10 = .ok (.iaload, 1) := by decide +kernel
theorem dX0_isGone_11 : decode cX0_isGone 11 = .ok (.iconst 4, 1) := by decide +kernel
theorem dX0_isGone_12 : decode cX0_isGone 12 = .ok (.if_icmp .eq 13, 3) := by decide +kernel
theorem dX0_isGone_15 : decode cX0_isGone 15 = .ok (.aload_n 0, 1) := by decide +kernel
theorem dX0_isGone_16 : decode cX0_isGone 16 = .ok (.getfield 15, 3) := by decide +kernel
theorem dX0_isGone_19 : decode cX0_isGone 19 = .ok (.iload_n 1, 1) := by decide +kernel
theorem dX0_isGone_20 : decode cX0_isGone 20 = .ok (.iaload, 1) := by decide +kernel
theorem dX0_isGone_21 : decode cX0_isGone 21 = .ok (.iconst 5, 1) := by decide +kernel
theorem dX0_isGone_22 : decode cX0_isGone 22 = .ok (.if_icmp .ne 7, 3) := by decide +kernel
theorem dX0_isGone_25 : decode cX0_isGone 25 = .ok (.iconst 1, 1) := by decide +kernel
theorem dX0_isGone_26 : decode cX0_isGone 26 = .ok (.goto 4, 3) := by decide +kernel
theorem dX0_isGone_29 : decode cX0_isGone 29 = .ok (.iconst 0, 1) := by decide +kernel
theorem dX0_isGone_30 : decode cX0_isGone 30 = .ok (.ireturn, 1) := by decide +kernel
theorem dX0_price_0 : decode cX0_price 0 = .ok (.aload_n 0, 1) := by decide +kernel
theorem dX0_price_1 : decode cX0_price 1 = .ok (.getfield 15, 3) := by decide +kernel
theorem dX0_price_4 : decode cX0_price 4 = .ok (.iload_n 1, 1) := by decide +kernel
theorem dX0_price_5 : decode cX0_price 5 = .ok (.iaload, 1) := by decide +kernel
theorem dX0_price_6 : decode cX0_price 6 = .ok (.iconst 1, 1) := by decide +kernel
theorem dX0_price_7 : decode cX0_price 7 = .ok (.if_icmp .ne 13, 3) := by decide +kernel
theorem dX0_price_10 : decode cX0_price 10 = .ok (.aload_n 0, 1) := by decide +kernel
theorem dX0_price_11 : decode cX0_price 11 = .ok (.getfield 24, 3) := by decide +kernel
theorem dX0_price_14 : decode cX0_price 14 = .ok (.getfield 38, 3) := by decide +kernel
theorem dX0_price_17 : decode cX0_price 17 = .ok (.iload_n 1, 1) := by decide +kernel
theorem dX0_price_18 : decode cX0_price 18 = .ok (.iaload, 1) := by decide +kernel
theorem dX0_price_19 : decode cX0_price 19 = .ok (.ireturn, 1) := by decide +kernel
theorem dX0_price_20 : decode cX0_price 20 = .ok (.aload_n 0, 1) := by decide +kernel
theorem dX0_price_21 : decode cX0_price 21 = .ok (.getfield 15, 3) := by decide +kernel
theorem dX0_price_24 : decode cX0_price 24 = .ok (.iload_n 1, 1) := by decide +kernel
theorem dX0_price_25 : decode cX0_price 25 = .ok (.iaload, 1) := by decide +kernel
theorem dX0_price_26 : decode cX0_price 26 = .ok (.iconst 2, 1) := by decide +kernel
theorem dX0_price_27 : decode cX0_price 27 = .ok (.if_icmp .ne 25, 3) := by decide +kernel
theorem dX0_price_30 : decode cX0_price 30 = .ok (.aload_n 0, 1) := by decide +kernel
theorem dX0_price_31 : decode cX0_price 31 = .ok (.getfield 24, 3) := by decide +kernel
theorem dX0_price_34 : decode cX0_price 34 = .ok (.getfield 38, 3) := by decide +kernel
theorem dX0_price_37 : decode cX0_price 37 = .ok (.iload_n 1, 1) := by decide +kernel
theorem dX0_price_38 : decode cX0_price 38 = .ok (.iaload, 1) := by decide +kernel
theorem dX0_price_39 : decode cX0_price 39 = .ok (.aload_n 0, 1) := by decide +kernel
theorem dX0_price_40 : decode cX0_price 40 = .ok (.getfield 24, 3) := by decide +kernel
theorem dX0_price_43 : decode cX0_price 43 = .ok (.getfield 43, 3) := by decide +kernel
theorem dX0_price_46 : decode cX0_price 46 = .ok (.iload_n 1, 1) := by decide +kernel
theorem dX0_price_47 : decode cX0_price 47 = .ok (.iaload, 1) := by decide +kernel
theorem dX0_price_48 : decode cX0_price 48 = .ok (.iconst 2, 1) := by decide +kernel
theorem dX0_price_49 : decode cX0_price 49 = .ok (.idiv, 1) := by decide +kernel
theorem dX0_price_50 : decode cX0_price 50 = .ok (.iadd, 1) := by decide +kernel
theorem dX0_price_51 : decode cX0_price 51 = .ok (.ireturn, 1) := by decide +kernel
theorem dX0_price_52 : decode cX0_price 52 = .ok (.iconst 0, 1) := by decide +kernel
theorem dX0_price_53 : decode cX0_price 53 = .ok (.ireturn, 1) := by decide +kernel
theorem dX0_canBePaid_0 : decode cX0_canBePaid 0 = .ok (.aload_n 0, 1) := by decide +kernel
theorem dX0_canBePaid_1 : decode cX0_canBePaid 1 = .ok (.iload_n 1, 1) := by decide +kernel
theorem dX0_canBePaid_2 : decode cX0_canBePaid 2 = .ok (.invokevirtual 46, 3) := by decide +kernel
theorem dX0_canBePaid_5 : decode cX0_canBePaid 5 = .ok (.ifCond .eq 29, 3) := by decide +kernel
theorem dX0_canBePaid_8 : decode cX0_canBePaid 8 = .ok (.aload_n 0, 1) := by decide +kernel
theorem dX0_canBePaid_9 : decode cX0_canBePaid 9 = .ok (.getfield 9, 3) := by decide +kernel
theorem dX0_canBePaid_12 : decode cX0_canBePaid 12 = .ok (.aload_n 0, 1) := by decide +kernel
theorem dX0_canBePaid_13 : decode cX0_canBePaid 13 = .ok (.getfield 24, 3) := by decide +kernel
theorem dX0_canBePaid_16 : decode cX0_canBePaid 16 = .ok (.getfield 50, 3) := by decide +kernel
theorem dX0_canBePaid_19 : decode cX0_canBePaid 19 = .ok (.iload_n 1, 1) := by decide +kernel
theorem dX0_canBePaid_20 : decode cX0_canBePaid 20 = .ok (.iaload, 1) := by decide +kernel
theorem dX0_canBePaid_21 : decode cX0_canBePaid 21 = .ok (.iaload, 1) := by decide +kernel
theorem dX0_canBePaid_22 : decode cX0_canBePaid 22 = .ok (.aload_n 0, 1) := by decide +kernel
theorem dX0_canBePaid_23 : decode cX0_canBePaid 23 = .ok (.iload_n 1, 1) := by decide +kernel
theorem dX0_canBePaid_24 : decode cX0_canBePaid 24 = .ok (.invokevirtual 53, 3) := by decide +kernel
theorem dX0_canBePaid_27 : decode cX0_canBePaid 27 = .ok (.if_icmp .lt 7, 3) := by decide +kernel
theorem dX0_canBePaid_30 : decode cX0_canBePaid 30 = .ok (.iconst 1, 1) := by decide +kernel
theorem dX0_canBePaid_31 : decode cX0_canBePaid 31 = .ok (.goto 4, 3) := by decide +kernel
theorem dX0_canBePaid_34 : decode cX0_canBePaid 34 = .ok (.iconst 0, 1) := by decide +kernel
theorem dX0_canBePaid_35 : decode cX0_canBePaid 35 = .ok (.ireturn, 1) := by decide +kernel
theorem dX0_enter_0 : decode cX0_enter 0 = .ok (.aload_n 0, 1) := by decide +kernel
theorem dX0_enter_1 : decode cX0_enter 1 = .ok (.getfield 24, 3) := by decide +kernel
theorem dX0_enter_4 : decode cX0_enter 4 = .ok (.getfield 57, 3) := by decide +kernel
theorem dX0_enter_7 : decode cX0_enter 7 = .ok (.iload_n 1, 1) := by decide +kernel
theorem dX0_enter_8 : decode cX0_enter 8 = .ok (.iaload, 1) := by decide +kernel
theorem dX0_enter_9 : decode cX0_enter 9 = .ok (.istore_n 2, 1) := by decide +kernel
theorem dX0_enter_10 : decode cX0_enter 10 = .ok (.iload_n 2, 1) := by decide +kernel
theorem dX0_enter_11 : decode cX0_enter 11 = .ok (.iconst (-1), 1) := by decide +kernel
theorem dX0_enter_12 : decode cX0_enter 12 = .ok (.if_icmp .eq 29, 3) := by decide +kernel
theorem dX0_enter_15 : decode cX0_enter 15 = .ok (.aload_n 0, 1) := by decide +kernel
theorem dX0_enter_16 : decode cX0_enter 16 = .ok (.getfield 15, 3) := by decide +kernel
theorem dX0_enter_19 : decode cX0_enter 19 = .ok (.iload_n 2, 1) := by decide +kernel
theorem dX0_enter_20 : decode cX0_enter 20 = .ok (.iaload, 1) := by decide +kernel
theorem dX0_enter_21 : decode cX0_enter 21 = .ok (.ifCond .eq 11, 3) := by decide +kernel
theorem dX0_enter_24 : decode cX0_enter 24 = .ok (.aload_n 0, 1) := by decide +kernel
theorem dX0_enter_25 : decode cX0_enter 25 = .ok (.iload_n 2, 1) := by decide +kernel
theorem dX0_enter_26 : decode cX0_enter 26 = .ok (.invokevirtual 46, 3) := by decide +kernel
theorem dX0_enter_29 : decode cX0_enter 29 = .ok (.ifCond .eq 12, 3) := by decide +kernel
theorem dX0_enter_32 : decode cX0_enter 32 = .ok (.aload_n 0, 1) := by decide +kernel
theorem dX0_enter_33 : decode cX0_enter 33 = .ok (.iload_n 1, 1) := by decide +kernel
theorem dX0_enter_34 : decode cX0_enter 34 = .ok (.iconst 0, 1) := by decide +kernel
theorem dX0_enter_35 : decode cX0_enter 35 = .ok (.invokevirtual 60, 3) := by decide +kernel
theorem dX0_enter_38 : decode cX0_enter 38 = .ok (.goto 8, 3) := by decide +kernel
theorem dX0_enter_41 : decode cX0_enter 41 = .ok (.aload_n 0, 1) := by decide +kernel
theorem dX0_enter_42 : decode cX0_enter 42 = .ok (.iload_n 1, 1) := by decide +kernel
theorem dX0_enter_43 : decode cX0_enter 43 = .ok (.invokevirtual 64, 3) := by decide +kernel
theorem dX0_enter_46 : decode cX0_enter 46 = .ok (.return_, 1) := by decide +kernel
theorem dX0_begin_0 : decode cX0_begin 0 = .ok (.aload_n 0, 1) := by decide +kernel
theorem dX0_begin_1 : decode cX0_begin 1 = .ok (.getfield 15, 3) := by decide +kernel
theorem dX0_begin_4 : decode cX0_begin 4 = .ok (.iload_n 1, 1) := by decide +kernel
theorem dX0_begin_5 : decode cX0_begin 5 = .ok (.iconst 1, 1) := by decide +kernel
theorem dX0_begin_6 : decode cX0_begin 6 = .ok (.iastore, 1) := by decide +kernel
theorem dX0_begin_7 : decode cX0_begin 7 = .ok (.aload_n 0, 1) := by decide +kernel
theorem dX0_begin_8 : decode cX0_begin 8 = .ok (.getfield 18, 3) := by decide +kernel
theorem dX0_begin_11 : decode cX0_begin 11 = .ok (.iload_n 1, 1) := by decide +kernel
theorem dX0_begin_12 : decode cX0_begin 12 = .ok (.aload_n 0, 1) := by decide +kernel
theorem dX0_begin_13 : decode cX0_begin 13 = .ok (.getfield 24, 3) := by decide +kernel
theorem dX0_begin_16 : decode cX0_begin 16 = .ok (.getfield 68, 3) := by decide +kernel
theorem dX0_begin_19 : decode cX0_begin 19 = .ok (.iload_n 1, 1) := by decide +kernel
theorem dX0_begin_20 : decode cX0_begin 20 = .ok (.iaload, 1) := by decide +kernel
theorem dX0_begin_21 : decode cX0_begin 21 = .ok (.iastore, 1) := by decide +kernel
theorem dX0_begin_22 : decode cX0_begin 22 = .ok (.aload_n 0, 1) := by decide +kernel
theorem dX0_begin_23 : decode cX0_begin 23 = .ok (.getfield 21, 3) := by decide +kernel
theorem dX0_begin_26 : decode cX0_begin 26 = .ok (.iload_n 1, 1) := by decide +kernel
theorem dX0_begin_27 : decode cX0_begin 27 = .ok (.iconst 0, 1) := by decide +kernel
theorem dX0_begin_28 : decode cX0_begin 28 = .ok (.iastore, 1) := by decide +kernel
theorem dX0_begin_29 : decode cX0_begin 29 = .ok (.return_, 1) := by decide +kernel
theorem dX0_end_0 : decode cX0_end 0 = .ok (.aload_n 0, 1) := by decide +kernel
theorem dX0_end_1 : decode cX0_end 1 = .ok (.getfield 15, 3) := by decide +kernel
theorem dX0_end_4 : decode cX0_end 4 = .ok (.iload_n 1, 1) := by decide +kernel
theorem dX0_end_5 : decode cX0_end 5 = .ok (.iload_n 2, 1) := by decide +kernel
theorem dX0_end_6 : decode cX0_end 6 = .ok (.iastore, 1) := by decide +kernel
theorem dX0_end_7 : decode cX0_end 7 = .ok (.aload_n 0, 1) := by decide +kernel
theorem dX0_end_8 : decode cX0_end 8 = .ok (.getfield 18, 3) := by decide +kernel
theorem dX0_end_11 : decode cX0_end 11 = .ok (.iload_n 1, 1) := by decide +kernel
theorem dX0_end_12 : decode cX0_end 12 = .ok (.iconst 0, 1) := by decide +kernel
theorem dX0_end_13 : decode cX0_end 13 = .ok (.iastore, 1) := by decide +kernel
theorem dX0_end_14 : decode cX0_end 14 = .ok (.aload_n 0, 1) := by decide +kernel
theorem dX0_end_15 : decode cX0_end 15 = .ok (.getfield 21, 3) := by decide +kernel
theorem dX0_end_18 : decode cX0_end 18 = .ok (.iload_n 1, 1) := by decide +kernel
theorem dX0_end_19 : decode cX0_end 19 = .ok (.iconst 0, 1) := by decide +kernel
theorem dX0_end_20 : decode cX0_end 20 = .ok (.iastore, 1) := by decide +kernel
theorem dX0_end_21 : decode cX0_end 21 = .ok (.return_, 1) := by decide +kernel
theorem dX0_settle_0 : decode cX0_settle 0 = .ok (.aload_n 0, 1) := by decide +kernel
theorem dX0_settle_1 : decode cX0_settle 1 = .ok (.aload_n 0, 1) := by decide +kernel
theorem dX0_settle_2 : decode cX0_settle 2 = .ok (.iload_n 1, 1) := by decide +kernel
theorem dX0_settle_3 : decode cX0_settle 3 = .ok (.invokevirtual 53, 3) := by decide +kernel
theorem dX0_settle_6 : decode cX0_settle 6 = .ok (.iload_n 1, 1) := by decide +kernel
theorem dX0_settle_7 : decode cX0_settle 7 = .ok (.invokevirtual 71, 3) := by decide +kernel
theorem dX0_settle_10 : decode cX0_settle 10 = .ok (.aload_n 0, 1) := by decide +kernel
theorem dX0_settle_11 : decode cX0_settle 11 = .ok (.iload_n 1, 1) := by decide +kernel
theorem dX0_settle_12 : decode cX0_settle 12 = .ok (.iconst 3, 1) := by decide +kernel
theorem dX0_settle_13 : decode cX0_settle 13 = .ok (.invokevirtual 60, 3) := by decide +kernel
theorem dX0_settle_16 : decode cX0_settle 16 = .ok (.iload_n 1, 1) := by decide +kernel
theorem dX0_settle_17 : decode cX0_settle 17 = .ok (.iconst 1, 1) := by decide +kernel
theorem dX0_settle_18 : decode cX0_settle 18 = .ok (.iadd, 1) := by decide +kernel
theorem dX0_settle_19 : decode cX0_settle 19 = .ok (.istore_n 2, 1) := by decide +kernel
theorem dX0_settle_20 : decode cX0_settle 20 = .ok (.iload_n 2, 1) := by decide +kernel
theorem dX0_settle_21 : decode cX0_settle 21 = .ok (.aload_n 0, 1) := by decide +kernel
theorem dX0_settle_22 : decode cX0_settle 22 = .ok (.getfield 24, 3) := by decide +kernel
theorem dX0_settle_25 : decode cX0_settle 25 = .ok (.getfield 74, 3) := by decide +kernel
theorem dX0_settle_28 : decode cX0_settle 28 = .ok (.if_icmp .ge 36, 3) := by decide +kernel
theorem dX0_settle_31 : decode cX0_settle 31 = .ok (.aload_n 0, 1) := by decide +kernel
theorem dX0_settle_32 : decode cX0_settle 32 = .ok (.getfield 24, 3) := by decide +kernel
theorem dX0_settle_35 : decode cX0_settle 35 = .ok (.getfield 57, 3) := by decide +kernel
theorem dX0_settle_38 : decode cX0_settle 38 = .ok (.iload_n 2, 1) := by decide +kernel
theorem dX0_settle_39 : decode cX0_settle 39 = .ok (.iaload, 1) := by decide +kernel
theorem dX0_settle_40 : decode cX0_settle 40 = .ok (.iload_n 1, 1) := by decide +kernel
theorem dX0_settle_41 : decode cX0_settle 41 = .ok (.if_icmp .ne 17, 3) := by decide +kernel
theorem dX0_settle_44 : decode cX0_settle 44 = .ok (.aload_n 0, 1) := by decide +kernel
theorem dX0_settle_45 : decode cX0_settle 45 = .ok (.getfield 15, 3) := by decide +kernel
theorem dX0_settle_48 : decode cX0_settle 48 = .ok (.iload_n 2, 1) := by decide +kernel
theorem dX0_settle_49 : decode cX0_settle 49 = .ok (.iaload, 1) := by decide +kernel
theorem dX0_settle_50 : decode cX0_settle 50 = .ok (.ifCond .ne 8, 3) := by decide +kernel
theorem dX0_settle_53 : decode cX0_settle 53 = .ok (.aload_n 0, 1) := by decide +kernel
theorem dX0_settle_54 : decode cX0_settle 54 = .ok (.iload_n 2, 1) := by decide +kernel
theorem dX0_settle_55 : decode cX0_settle 55 = .ok (.invokevirtual 64, 3) := by decide +kernel
theorem dX0_settle_58 : decode cX0_settle 58 = .ok (.iinc 2 1, 3) := by decide +kernel
theorem dX0_settle_61 : decode cX0_settle 61 = .ok (.goto (-41), 3) := by decide +kernel
theorem dX0_settle_64 : decode cX0_settle 64 = .ok (.return_, 1) := by decide +kernel
theorem dX0_move_0 : decode cX0_move 0 = .ok (.aload_n 0, 1) := by decide +kernel
theorem dX0_move_1 : decode cX0_move 1 = .ok (.getfield 9, 3) := by decide +kernel
theorem dX0_move_4 : decode cX0_move 4 = .ok (.aload_n 0, 1) := by decide +kernel
theorem dX0_move_5 : decode cX0_move 5 = .ok (.getfield 24, 3) := by decide +kernel
theorem dX0_move_8 : decode cX0_move 8 = .ok (.getfield 50, 3) := by decide +kernel
theorem dX0_move_11 : decode cX0_move 11 = .ok (.iload_n 2, 1) := by decide +kernel
theorem dX0_move_12 : decode cX0_move 12 = .ok (.iaload, 1) := by decide +kernel
theorem dX0_move_13 : decode cX0_move 13 = .ok (.dup2, 1) := by decide +kernel
theorem dX0_move_14 : decode cX0_move 14 = .ok (.iaload, 1) := by decide +kernel
theorem dX0_move_15 : decode cX0_move 15 = .ok (.iload_n 1, 1) := by decide +kernel
theorem dX0_move_16 : decode cX0_move 16 = .ok (.isub, 1) := by decide +kernel
theorem dX0_move_17 : decode cX0_move 17 = .ok (.iastore, 1) := by decide +kernel
theorem dX0_move_18 : decode cX0_move 18 = .ok (.aload_n 0, 1) := by decide +kernel
theorem dX0_move_19 : decode cX0_move 19 = .ok (.getfield 9, 3) := by decide +kernel
theorem dX0_move_22 : decode cX0_move 22 = .ok (.aload_n 0, 1) := by decide +kernel
theorem dX0_move_23 : decode cX0_move 23 = .ok (.getfield 24, 3) := by decide +kernel
theorem dX0_move_26 : decode cX0_move 26 = .ok (.getfield 77, 3) := by decide +kernel
theorem dX0_move_29 : decode cX0_move 29 = .ok (.iload_n 2, 1) := by decide +kernel
theorem dX0_move_30 : decode cX0_move 30 = .ok (.iaload, 1) := by decide +kernel
theorem dX0_move_31 : decode cX0_move 31 = .ok (.dup2, 1) := by decide +kernel
theorem dX0_move_32 : decode cX0_move 32 = .ok (.iaload, 1) := by decide +kernel
theorem dX0_move_33 : decode cX0_move 33 = .ok (.iload_n 1, 1) := by decide +kernel
theorem dX0_move_34 : decode cX0_move 34 = .ok (.iadd, 1) := by decide +kernel
theorem dX0_move_35 : decode cX0_move 35 = .ok (.iastore, 1) := by decide +kernel
theorem dX0_move_36 : decode cX0_move 36 = .ok (.return_, 1) := by decide +kernel
theorem dX0_live_0 : decode cX0_live 0 = .ok (.iconst 0, 1) := by decide +kernel
theorem dX0_live_1 : decode cX0_live 1 = .ok (.istore_n 2, 1) := by decide +kernel
theorem dX0_live_2 : decode cX0_live 2 = .ok (.iconst 0, 1) := by decide +kernel
theorem dX0_live_3 : decode cX0_live 3 = .ok (.istore_n 3, 1) := by decide +kernel
theorem dX0_live_4 : decode cX0_live 4 = .ok (.iload_n 3, 1) := by decide +kernel
theorem dX0_live_5 : decode cX0_live 5 = .ok (.iload_n 1, 1) := by decide +kernel
theorem dX0_live_6 : decode cX0_live 6 = .ok (.if_icmp .ge 57, 3) := by decide +kernel
theorem dX0_live_9 : decode cX0_live 9 = .ok (.iconst 0, 1) := by decide +kernel
theorem dX0_live_10 : decode cX0_live 10 = .ok (.istore 4, 2) := by decide +kernel
theorem dX0_live_12 : decode cX0_live 12 = .ok (.iload 4, 2) := by decide +kernel
theorem dX0_live_14 : decode cX0_live 14 = .ok (.aload_n 0, 1) := by decide +kernel
theorem dX0_live_15 : decode cX0_live 15 = .ok (.getfield 24, 3) := by decide +kernel
theorem dX0_live_18 : decode cX0_live 18 = .ok (.getfield 74, 3) := by decide +kernel
theorem dX0_live_21 : decode cX0_live 21 = .ok (.if_icmp .ge 36, 3) := by decide +kernel
theorem dX0_live_24 : decode cX0_live 24 = .ok (.aload_n 0, 1) := by decide +kernel
theorem dX0_live_25 : decode cX0_live 25 = .ok (.iload 4, 2) := by decide +kernel
theorem dX0_live_27 : decode cX0_live 27 = .ok (.invokevirtual 46, 3) := by decide +kernel
theorem dX0_live_30 : decode cX0_live 30 = .ok (.ifCond .eq 21, 3) := by decide +kernel
theorem dX0_live_33 : decode cX0_live 33 = .ok (.aload_n 0, 1) := by decide +kernel
theorem dX0_live_34 : decode cX0_live 34 = .ok (.iload 4, 2) := by decide +kernel
theorem dX0_live_36 : decode cX0_live 36 = .ok (.invokevirtual 80, 3) := by decide +kernel
theorem dX0_live_39 : decode cX0_live 39 = .ok (.ifCond .eq 12, 3) := by decide +kernel
theorem dX0_live_42 : decode cX0_live 42 = .ok (.aload_n 0, 1) := by decide +kernel
theorem dX0_live_43 : decode cX0_live 43 = .ok (.iload 4, 2) := by decide +kernel
theorem dX0_live_45 : decode cX0_live 45 = .ok (.invokevirtual 83, 3) := by decide +kernel
theorem dX0_live_48 : decode cX0_live 48 = .ok (.iinc 2 1, 3) := by decide +kernel
theorem dX0_live_51 : decode cX0_live 51 = .ok (.iinc 4 1, 3) := by decide +kernel
theorem dX0_live_54 : decode cX0_live 54 = .ok (.goto (-42), 3) := by decide +kernel
theorem dX0_live_57 : decode cX0_live 57 = .ok (.iinc 3 1, 3) := by decide +kernel
theorem dX0_live_60 : decode cX0_live 60 = .ok (.goto (-56), 3) := by decide +kernel
theorem dX0_live_63 : decode cX0_live 63 = .ok (.iload_n 2, 1) := by decide +kernel
theorem dX0_live_64 : decode cX0_live 64 = .ok (.ireturn, 1) := by decide +kernel
theorem dX0_runsOutToday_0 : decode cX0_runsOutToday 0 = .ok (.aload_n 0, 1) := by decide +kernel
theorem dX0_runsOutToday_1 : decode cX0_runsOutToday 1 = .ok (.getfield 21, 3) := by decide +kernel
theorem dX0_runsOutToday_4 : decode cX0_runsOutToday 4 = .ok (.iload_n 1, 1) := by decide +kernel
theorem dX0_runsOutToday_5 : decode cX0_runsOutToday 5 = .ok (.iaload, 1) := by decide +kernel
theorem dX0_runsOutToday_6 : decode cX0_runsOutToday 6 = .ok (.ifCond .le 15, 3) := by decide +kernel
theorem dX0_runsOutToday_9 : decode cX0_runsOutToday 9 = .ok (.aload_n 0, 1) := by decide +kernel
theorem dX0_runsOutToday_10 : decode cX0_runsOutToday 10 = .ok (.getfield 21, 3) := by decide +kernel
theorem dX0_runsOutToday_13 : decode cX0_runsOutToday 13 = .ok (.iload_n 1, 1) := by decide +kernel
theorem dX0_runsOutToday_14 : decode cX0_runsOutToday 14 = .ok (.dup2, 1) := by decide +kernel
theorem dX0_runsOutToday_15 : decode cX0_runsOutToday 15 = .ok (.iaload, 1) := by decide +kernel
theorem dX0_runsOutToday_16 : decode cX0_runsOutToday 16 = .ok (.iconst 1, 1) := by decide +kernel
theorem dX0_runsOutToday_17 : decode cX0_runsOutToday 17 = .ok (.isub, 1) := by decide +kernel
theorem dX0_runsOutToday_18 : decode cX0_runsOutToday 18 = .ok (.iastore, 1) := by decide +kernel
theorem dX0_runsOutToday_19 : decode cX0_runsOutToday 19 = .ok (.iconst 0, 1) := by decide +kernel
theorem dX0_runsOutToday_20 : decode cX0_runsOutToday 20 = .ok (.ireturn, 1) := by decide +kernel
theorem dX0_runsOutToday_21 : decode cX0_runsOutToday 21 = .ok (.aload_n 0, 1) := by decide +kernel
theorem dX0_runsOutToday_22 : decode cX0_runsOutToday 22 = .ok (.getfield 18, 3) := by decide +kernel
theorem dX0_runsOutToday_25 : decode cX0_runsOutToday 25 = .ok (.iload_n 1, 1) := by decide +kernel
theorem dX0_runsOutToday_26 : decode cX0_runsOutToday 26 = .ok (.dup2, 1) := by decide +kernel
theorem dX0_runsOutToday_27 : decode cX0_runsOutToday 27 = .ok (.iaload, 1) := by decide +kernel
theorem dX0_runsOutToday_28 : decode cX0_runsOutToday 28 = .ok (.iconst 1, 1) := by decide +kernel
theorem dX0_runsOutToday_29 : decode cX0_runsOutToday 29 = .ok (.isub, 1) := by decide +kernel
theorem dX0_runsOutToday_30 : decode cX0_runsOutToday 30 = .ok (.iastore, 1) := by decide +kernel
theorem dX0_runsOutToday_31 : decode cX0_runsOutToday 31 = .ok (.aload_n 0, 1) := by decide +kernel
theorem dX0_runsOutToday_32 : decode cX0_runsOutToday 32 = .ok (.getfield 18, 3) := by decide +kernel
theorem dX0_runsOutToday_35 : decode cX0_runsOutToday 35 = .ok (.iload_n 1, 1) := by decide +kernel
theorem dX0_runsOutToday_36 : decode cX0_runsOutToday 36 = .ok (.iaload, 1) := by decide +kernel
theorem dX0_runsOutToday_37 : decode cX0_runsOutToday 37 = .ok (.ifCond .ne 35, 3) := by decide +kernel
theorem dX0_runsOutToday_40 : decode cX0_runsOutToday 40 = .ok (.aload_n 0, 1) := by decide +kernel
theorem dX0_runsOutToday_41 : decode cX0_runsOutToday 41 = .ok (.getfield 15, 3) := by decide +kernel
theorem dX0_runsOutToday_44 : decode cX0_runsOutToday 44 = .ok (.iload_n 1, 1) := by decide +kernel
theorem dX0_runsOutToday_45 : decode cX0_runsOutToday 45 = .ok (.iaload, 1) := by decide +kernel
theorem dX0_runsOutToday_46 : decode cX0_runsOutToday 46 = .ok (.iconst 1, 1) := by decide +kernel
theorem dX0_runsOutToday_47 : decode cX0_runsOutToday 47 = .ok (.if_icmp .ne 25, 3) := by decide +kernel
theorem dX0_runsOutToday_50 : decode cX0_runsOutToday 50 = .ok (.aload_n 0, 1) := by decide +kernel
theorem dX0_runsOutToday_51 : decode cX0_runsOutToday 51 = .ok (.getfield 15, 3) := by decide +kernel
theorem dX0_runsOutToday_54 : decode cX0_runsOutToday 54 = .ok (.iload_n 1, 1) := by decide +kernel
theorem dX0_runsOutToday_55 : decode cX0_runsOutToday 55 = .ok (.iconst 2, 1) := by decide +kernel
theorem dX0_runsOutToday_56 : decode cX0_runsOutToday 56 = .ok (.iastore, 1) := by decide +kernel
theorem dX0_runsOutToday_57 : decode cX0_runsOutToday 57 = .ok (.aload_n 0, 1) := by decide +kernel
theorem dX0_runsOutToday_58 : decode cX0_runsOutToday 58 = .ok (.getfield 18, 3) := by decide +kernel
theorem dX0_runsOutToday_61 : decode cX0_runsOutToday 61 = .ok (.iload_n 1, 1) := by decide +kernel
theorem dX0_runsOutToday_62 : decode cX0_runsOutToday 62 = .ok (.aload_n 0, 1) := by decide +kernel
theorem dX0_runsOutToday_63 : decode cX0_runsOutToday 63 = .ok (.getfield 24, 3) := by decide +kernel
theorem dX0_runsOutToday_66 : decode cX0_runsOutToday 66 = .ok (.getfield 86, 3) := by decide +kernel
theorem dX0_runsOutToday_69 : decode cX0_runsOutToday 69 = .ok (.iload_n 1, 1) := by decide +kernel
theorem dX0_runsOutToday_70 : decode cX0_runsOutToday 70 = .ok (.iaload, 1) := by decide +kernel
theorem dX0_runsOutToday_71 : decode cX0_runsOutToday 71 = .ok (.iastore, 1) := by decide +kernel
theorem dX0_runsOutToday_72 : decode cX0_runsOutToday 72 = .ok (.aload_n 0, 1) := by decide +kernel
theorem dX0_runsOutToday_73 : decode cX0_runsOutToday 73 = .ok (.getfield 18, 3) := by decide +kernel
theorem dX0_runsOutToday_76 : decode cX0_runsOutToday 76 = .ok (.iload_n 1, 1) := by decide +kernel
theorem dX0_runsOutToday_77 : decode cX0_runsOutToday 77 = .ok (.iaload, 1) := by decide +kernel
theorem dX0_runsOutToday_78 : decode cX0_runsOutToday 78 = .ok (.ifCond .ne 7, 3) := by decide +kernel
theorem dX0_runsOutToday_81 : decode cX0_runsOutToday 81 = .ok (.iconst 1, 1) := by decide +kernel
theorem dX0_runsOutToday_82 : decode cX0_runsOutToday 82 = .ok (.goto 4, 3) := by decide +kernel
theorem dX0_runsOutToday_85 : decode cX0_runsOutToday 85 = .ok (.iconst 0, 1) := by decide +kernel
theorem dX0_runsOutToday_86 : decode cX0_runsOutToday 86 = .ok (.ireturn, 1) := by decide +kernel
theorem dX0_fail_0 : decode cX0_fail 0 = .ok (.aload_n 0, 1) := by decide +kernel
theorem dX0_fail_1 : decode cX0_fail 1 = .ok (.getfield 24, 3) := by decide +kernel
theorem dX0_fail_4 : decode cX0_fail 4 = .ok (.getfield 43, 3) := by decide +kernel
theorem dX0_fail_7 : decode cX0_fail 7 = .ok (.iload_n 1, 1) := by decide +kernel
theorem dX0_fail_8 : decode cX0_fail 8 = .ok (.iaload, 1) := by decide +kernel
theorem dX0_fail_9 : decode cX0_fail 9 = .ok (.aload_n 0, 1) := by decide +kernel
theorem dX0_fail_10 : decode cX0_fail 10 = .ok (.getfield 9, 3) := by decide +kernel
theorem dX0_fail_13 : decode cX0_fail 13 = .ok (.aload_n 0, 1) := by decide +kernel
theorem dX0_fail_14 : decode cX0_fail 14 = .ok (.getfield 24, 3) := by decide +kernel
theorem dX0_fail_17 : decode cX0_fail 17 = .ok (.getfield 50, 3) := by decide +kernel
theorem dX0_fail_20 : decode cX0_fail 20 = .ok (.iload_n 1, 1) := by decide +kernel
theorem dX0_fail_21 : decode cX0_fail 21 = .ok (.iaload, 1) := by decide +kernel
theorem dX0_fail_22 : decode cX0_fail 22 = .ok (.iaload, 1) := by decide +kernel
theorem dX0_fail_23 : decode cX0_fail 23 = .ok (.invokestatic 89, 3) := by decide +kernel
theorem dX0_fail_26 : decode cX0_fail 26 = .ok (.istore_n 2, 1) := by decide +kernel
theorem dX0_fail_27 : decode cX0_fail 27 = .ok (.aload_n 0, 1) := by decide +kernel
theorem dX0_fail_28 : decode cX0_fail 28 = .ok (.iload_n 2, 1) := by decide +kernel
theorem dX0_fail_29 : decode cX0_fail 29 = .ok (.iload_n 1, 1) := by decide +kernel
theorem dX0_fail_30 : decode cX0_fail 30 = .ok (.invokevirtual 71, 3) := by decide +kernel
theorem dX0_fail_33 : decode cX0_fail 33 = .ok (.aload_n 0, 1) := by decide +kernel
theorem dX0_fail_34 : decode cX0_fail 34 = .ok (.dup, 1) := by decide +kernel
theorem dX0_fail_35 : decode cX0_fail 35 = .ok (.getfield 34, 3) := by decide +kernel
theorem dX0_fail_38 : decode cX0_fail 38 = .ok (.iload_n 2, 1) := by decide +kernel
theorem dX0_fail_39 : decode cX0_fail 39 = .ok (.iadd, 1) := by decide +kernel
theorem dX0_fail_40 : decode cX0_fail 40 = .ok (.putfield 34, 3) := by decide +kernel
theorem dX0_fail_43 : decode cX0_fail 43 = .ok (.aload_n 0, 1) := by decide +kernel
theorem dX0_fail_44 : decode cX0_fail 44 = .ok (.iload_n 1, 1) := by decide +kernel
theorem dX0_fail_45 : decode cX0_fail 45 = .ok (.iconst 4, 1) := by decide +kernel
theorem dX0_fail_46 : decode cX0_fail 46 = .ok (.invokevirtual 60, 3) := by decide +kernel
theorem dX0_fail_49 : decode cX0_fail 49 = .ok (.aload_n 0, 1) := by decide +kernel
theorem dX0_fail_50 : decode cX0_fail 50 = .ok (.iload_n 1, 1) := by decide +kernel
theorem dX0_fail_51 : decode cX0_fail 51 = .ok (.invokevirtual 95, 3) := by decide +kernel
theorem dX0_fail_54 : decode cX0_fail 54 = .ok (.pop, 1) := by decide +kernel
theorem dX0_fail_55 : decode cX0_fail 55 = .ok (.return_, 1) := by decide +kernel
theorem dX0_releaseWaitingBehind_0 : decode cX0_releaseWaitingBehind 0 = .ok (.iconst 0, 1) := by decide +kernel
theorem dX0_releaseWaitingBehind_1 : decode cX0_releaseWaitingBehind 1 = .ok (.istore_n 2, 1) := by decide +kernel
theorem dX0_releaseWaitingBehind_2 : decode cX0_releaseWaitingBehind 2 = .ok (.iload_n 1, 1) := by decide +kernel
theorem dX0_releaseWaitingBehind_3 : decode cX0_releaseWaitingBehind 3 = .ok (.iconst 1, 1) := by decide +kernel
theorem dX0_releaseWaitingBehind_4 : decode cX0_releaseWaitingBehind 4 = .ok (.iadd, 1) := by decide +kernel
theorem dX0_releaseWaitingBehind_5 : decode cX0_releaseWaitingBehind 5 = .ok (.istore_n 3, 1) := by decide +kernel
theorem dX0_releaseWaitingBehind_6 : decode cX0_releaseWaitingBehind 6 = .ok (.iload_n 3, 1) := by decide +kernel
theorem dX0_releaseWaitingBehind_7 : decode cX0_releaseWaitingBehind 7 = .ok (.aload_n 0, 1) := by decide +kernel
theorem dX0_releaseWaitingBehind_8 : decode cX0_releaseWaitingBehind 8 = .ok (.getfield 24, 3) := by decide +kernel
theorem dX0_releaseWaitingBehind_11 : decode cX0_releaseWaitingBehind 11 = .ok (.getfield 74, 3) := by decide +kernel
theorem dX0_releaseWaitingBehind_14 : decode cX0_releaseWaitingBehind 14 = .ok (.if_icmp .ge 44, 3) := by decide +kernel
theorem dX0_releaseWaitingBehind_17 : decode cX0_releaseWaitingBehind 17 = .ok (.aload_n 0, 1) := by decide +kernel
theorem dX0_releaseWaitingBehind_18 : decode cX0_releaseWaitingBehind 18 = .ok (.getfield 15, 3) := by decide +kernel
theorem dX0_releaseWaitingBehind_21 : decode cX0_releaseWaitingBehind 21 = .ok (.iload_n 3, 1) := by decide +kernel
theorem dX0_releaseWaitingBehind_22 : decode cX0_releaseWaitingBehind 22 = .ok (.iaload, 1) := by decide +kernel
theorem dX0_releaseWaitingBehind_23 : decode cX0_releaseWaitingBehind 23 = .ok (.ifCond .ne 29, 3) := by decide +kernel
theorem dX0_releaseWaitingBehind_26 : decode cX0_releaseWaitingBehind 26 = .ok (.aload_n 0, 1) := by decide +kernel
theorem dX0_releaseWaitingBehind_27 : decode cX0_releaseWaitingBehind 27 = .ok (.aload_n 0, 1) := by decide +kernel
theorem dX0_releaseWaitingBehind_28 : decode cX0_releaseWaitingBehind 28 = .ok (.getfield 24, 3) := by decide +kernel
theorem dX0_releaseWaitingBehind_31 : decode cX0_releaseWaitingBehind 31 = .ok (.getfield 57, 3) := by decide +kernel
theorem dX0_releaseWaitingBehind_34 : decode cX0_releaseWaitingBehind 34 = .ok (.iload_n 3, 1) := by decide +kernel
theorem dX0_releaseWaitingBehind_35 : decode cX0_releaseWaitingBehind 35 = .ok (.iaload, 1) := by decide +kernel
theorem dX0_releaseWaitingBehind_36 : decode cX0_releaseWaitingBehind 36 = .ok (.invokevirtual 98, 3) := by decide +kernel
theorem dX0_releaseWaitingBehind_39 : decode cX0_releaseWaitingBehind 39 = .ok (.ifCond .eq 13, 3) := by decide +kernel
theorem dX0_releaseWaitingBehind_42 : decode cX0_releaseWaitingBehind 42 = .ok (.aload_n 0, 1) := by decide +kernel
theorem dX0_releaseWaitingBehind_43 : decode cX0_releaseWaitingBehind 43 = .ok (.getfield 15, 3) := by decide +kernel
theorem dX0_releaseWaitingBehind_46 : decode cX0_releaseWaitingBehind 46 = .ok (.iload_n 3, 1) := by decide +kernel
theorem dX0_releaseWaitingBehind_47 : decode cX0_releaseWaitingBehind 47 = .ok (.iconst 5, 1) := by decide +kernel
theorem dX0_releaseWaitingBehind_48 : decode cX0_releaseWaitingBehind 48 = .ok (.iastore, 1) := by decide +kernel
theorem dX0_releaseWaitingBehind_49 : decode cX0_releaseWaitingBehind 49 = .ok (.iinc 2 1, 3) := by decide +kernel
theorem dX0_releaseWaitingBehind_52 : decode cX0_releaseWaitingBehind 52 = .ok (.iinc 3 1, 3) := by decide +kernel
theorem dX0_releaseWaitingBehind_55 : decode cX0_releaseWaitingBehind 55 = .ok (.goto (-49), 3) := by decide +kernel
theorem dX0_releaseWaitingBehind_58 : decode cX0_releaseWaitingBehind 58 = .ok (.iload_n 2, 1) := by decide +kernel
theorem dX0_releaseWaitingBehind_59 : decode cX0_releaseWaitingBehind 59 = .ok (.ireturn, 1) := by decide +kernel
theorem dX1_init_0 : decode cX1_init 0 = .ok (.aload_n 0, 1) := by decide +kernel
theorem dX1_init_1 : decode cX1_init 1 = .ok (.invokespecial 3, 3) := by decide +kernel
theorem dX1_init_4 : decode cX1_init 4 = .ok (.aload_n 0, 1) := by decide +kernel
theorem dX1_init_5 : decode cX1_init 5 = .ok (.bipush 20, 2) := by decide +kernel
theorem dX1_init_7 : decode cX1_init 7 = .ok (.newarray .int, 2) := by decide +kernel
theorem dX1_init_9 : decode cX1_init 9 = .ok (.putfield 9, 3) := by decide +kernel
theorem dX1_init_12 : decode cX1_init 12 = .ok (.aload_n 0, 1) := by decide +kernel
theorem dX1_init_13 : decode cX1_init 13 = .ok (.bipush 20, 2) := by decide +kernel
theorem dX1_init_15 : decode cX1_init 15 = .ok (.newarray .int, 2) := by decide +kernel
theorem dX1_init_17 : decode cX1_init 17 = .ok (.putfield 15, 3) := by decide +kernel
theorem dX1_init_20 : decode cX1_init 20 = .ok (.aload_n 0, 1) := by decide +kernel
theorem dX1_init_21 : decode cX1_init 21 = .ok (.bipush 20, 2) := by decide +kernel
theorem dX1_init_23 : decode cX1_init 23 = .ok (.newarray .int, 2) := by decide +kernel
theorem dX1_init_25 : decode cX1_init 25 = .ok (.putfield 18, 3) := by decide +kernel
theorem dX1_init_28 : decode cX1_init 28 = .ok (.aload_n 0, 1) := by decide +kernel
theorem dX1_init_29 : decode cX1_init 29 = .ok (.bipush 20, 2) := by decide +kernel
theorem dX1_init_31 : decode cX1_init 31 = .ok (.newarray .int, 2) := by decide +kernel
theorem dX1_init_33 : decode cX1_init 33 = .ok (.putfield 21, 3) := by decide +kernel
theorem dX1_init_36 : decode cX1_init 36 = .ok (.aload_n 0, 1) := by decide +kernel
theorem dX1_init_37 : decode cX1_init 37 = .ok (.bipush 20, 2) := by decide +kernel
theorem dX1_init_39 : decode cX1_init 39 = .ok (.newarray .int, 2) := by decide +kernel
theorem dX1_init_41 : decode cX1_init 41 = .ok (.putfield 24, 3) := by decide +kernel
theorem dX1_init_44 : decode cX1_init 44 = .ok (.aload_n 0, 1) := by decide +kernel
theorem dX1_init_45 : decode cX1_init 45 = .ok (.bipush 20, 2) := by decide +kernel
theorem dX1_init_47 : decode cX1_init 47 = .ok (.newarray .int, 2) := by decide +kernel
theorem dX1_init_49 : decode cX1_init 49 = .ok (.putfield 27, 3) := by decide +kernel
theorem dX1_init_52 : decode cX1_init 52 = .ok (.aload_n 0, 1) := by decide +kernel
theorem dX1_init_53 : decode cX1_init 53 = .ok (.bipush 20, 2) := by decide +kernel
theorem dX1_init_55 : decode cX1_init 55 = .ok (.newarray .int, 2) := by decide +kernel
theorem dX1_init_57 : decode cX1_init 57 = .ok (.putfield 30, 3) := by decide +kernel
theorem dX1_init_60 : decode cX1_init 60 = .ok (.aload_n 0, 1) := by decide +kernel
theorem dX1_init_61 : decode cX1_init 61 = .ok (.bipush 20, 2) := by decide +kernel
theorem dX1_init_63 : decode cX1_init 63 = .ok (.newarray .int, 2) := by decide +kernel
theorem dX1_init_65 : decode cX1_init 65 = .ok (.putfield 33, 3) := by decide +kernel
theorem dX1_init_68 : decode cX1_init 68 = .ok (.aload_n 0, 1) := by decide +kernel
theorem dX1_init_69 : decode cX1_init 69 = .ok (.bipush 20, 2) := by decide +kernel
theorem dX1_init_71 : decode cX1_init 71 = .ok (.newarray .int, 2) := by decide +kernel
theorem dX1_init_73 : decode cX1_init 73 = .ok (.putfield 36, 3) := by decide +kernel
theorem dX1_init_76 : decode cX1_init 76 = .ok (.aload_n 0, 1) := by decide +kernel
theorem dX1_init_77 : decode cX1_init 77 = .ok (.bipush 20, 2) := by decide +kernel
theorem dX1_init_79 : decode cX1_init 79 = .ok (.newarray .int, 2) := by decide +kernel
theorem dX1_init_81 : decode cX1_init 81 = .ok (.putfield 39, 3) := by decide +kernel
theorem dX1_init_84 : decode cX1_init 84 = .ok (.return_, 1) := by decide +kernel
theorem dX1_add_0 : decode cX1_add 0 = .ok (.aload_n 0, 1) := by decide +kernel
theorem dX1_add_1 : decode cX1_add 1 = .ok (.getfield 42, 3) := by decide +kernel
theorem dX1_add_4 : decode cX1_add 4 = .ok (.istore 8, 2) := by decide +kernel
theorem dX1_add_6 : decode cX1_add 6 = .ok (.aload_n 0, 1) := by decide +kernel
theorem dX1_add_7 : decode cX1_add 7 = .ok (.getfield 9, 3) := by decide +kernel
theorem dX1_add_10 : decode cX1_add 10 = .ok (.iload 8, 2) := by decide +kernel
theorem dX1_add_12 : decode cX1_add 12 = .ok (.iload_n 1, 1) := by decide +kernel
theorem dX1_add_13 : decode cX1_add 13 = .ok (.iastore, 1) := by decide +kernel
theorem dX1_add_14 : decode cX1_add 14 = .ok (.aload_n 0, 1) := by decide +kernel
theorem dX1_add_15 : decode cX1_add 15 = .ok (.getfield 15, 3) := by decide +kernel
theorem dX1_add_18 : decode cX1_add 18 = .ok (.iload 8, 2) := by decide +kernel
theorem dX1_add_20 : decode cX1_add 20 = .ok (.iload_n 2, 1) := by decide +kernel
theorem dX1_add_21 : decode cX1_add 21 = .ok (.iastore, 1) := by decide +kernel
theorem dX1_add_22 : decode cX1_add 22 = .ok (.aload_n 0, 1) := by decide +kernel
theorem dX1_add_23 : decode cX1_add 23 = .ok (.getfield 18, 3) := by decide +kernel
theorem dX1_add_26 : decode cX1_add 26 = .ok (.iload 8, 2) := by decide +kernel
theorem dX1_add_28 : decode cX1_add 28 = .ok (.iload_n 3, 1) := by decide +kernel
theorem dX1_add_29 : decode cX1_add 29 = .ok (.iastore, 1) := by decide +kernel
theorem dX1_add_30 : decode cX1_add 30 = .ok (.aload_n 0, 1) := by decide +kernel
theorem dX1_add_31 : decode cX1_add 31 = .ok (.getfield 21, 3) := by decide +kernel
theorem dX1_add_34 : decode cX1_add 34 = .ok (.iload 8, 2) := by decide +kernel
theorem dX1_add_36 : decode cX1_add 36 = .ok (.iload 4, 2) := by decide +kernel
theorem dX1_add_38 : decode cX1_add 38 = .ok (.iastore, 1) := by decide +kernel
theorem dX1_add_39 : decode cX1_add 39 = .ok (.aload_n 0, 1) := by decide +kernel
theorem dX1_add_40 : decode cX1_add 40 = .ok (.getfield 24, 3) := by decide +kernel
theorem dX1_add_43 : decode cX1_add 43 = .ok (.iload 8, 2) := by decide +kernel
theorem dX1_add_45 : decode cX1_add 45 = .ok (.iload 5, 2) := by decide +kernel
theorem dX1_add_47 : decode cX1_add 47 = .ok (.iastore, 1) := by decide +kernel
theorem dX1_add_48 : decode cX1_add 48 = .ok (.aload_n 0, 1) := by decide +kernel
theorem dX1_add_49 : decode cX1_add 49 = .ok (.getfield 27, 3) := by decide +kernel
theorem dX1_add_52 : decode cX1_add 52 = .ok (.iload 8, 2) := by decide +kernel
theorem dX1_add_54 : decode cX1_add 54 = .ok (.iload 6, 2) := by decide +kernel
theorem dX1_add_56 : decode cX1_add 56 = .ok (.iastore, 1) := by decide +kernel
theorem dX1_add_57 : decode cX1_add 57 = .ok (.aload_n 0, 1) := by decide +kernel
theorem dX1_add_58 : decode cX1_add 58 = .ok (.getfield 30, 3) := by decide +kernel
theorem dX1_add_61 : decode cX1_add 61 = .ok (.iload 8, 2) := by decide +kernel
theorem dX1_add_63 : decode cX1_add 63 = .ok (.iload 7, 2) := by decide +kernel
theorem dX1_add_65 : decode cX1_add 65 = .ok (.iastore, 1) := by decide +kernel
theorem dX1_add_66 : decode cX1_add 66 = .ok (.aload_n 0, 1) := by decide +kernel
theorem dX1_add_67 : decode cX1_add 67 = .ok (.getfield 33, 3) := by decide +kernel
theorem dX1_add_70 : decode cX1_add 70 = .ok (.iload 8, 2) := by decide +kernel
theorem dX1_add_72 : decode cX1_add 72 = .ok (.iload 7, 2) := by decide +kernel
theorem dX1_add_74 : decode cX1_add 74 = .ok (.iconst (-1), 1) := by decide +kernel
theorem dX1_add_75 : decode cX1_add 75 = .ok (.if_icmp .ne 7, 3) := by decide +kernel
theorem dX1_add_78 : decode cX1_add 78 = .ok (.iconst 0, 1) := by decide +kernel
theorem dX1_add_79 : decode cX1_add 79 = .ok (.goto 12, 3) := by decide +kernel
theorem dX1_add_82 : decode cX1_add 82 = .ok (.aload_n 0, 1) := by decide +kernel
theorem dX1_add_83 : decode cX1_add 83 = .ok (.getfield 33, 3) := by decide +kernel
theorem dX1_add_86 : decode cX1_add 86 = .ok (.iload 7, 2) := by decide +kernel
theorem dX1_add_88 : decode cX1_add 88 = .ok (.iaload, 1) := by decide +kernel
theorem dX1_add_89 : decode cX1_add 89 = .ok (.iconst 1, 1) := by decide +kernel
theorem dX1_add_90 : decode cX1_add 90 = .ok (.iadd, 1) := by decide +kernel
theorem dX1_add_91 : decode cX1_add 91 = .ok (.iastore, 1) := by decide +kernel
theorem dX1_add_92 : decode cX1_add 92 = .ok (.aload_n 0, 1) := by decide +kernel
theorem dX1_add_93 : decode cX1_add 93 = .ok (.iload 8, 2) := by decide +kernel
theorem dX1_add_95 : decode cX1_add 95 = .ok (.invokevirtual 46, 3) := by decide +kernel
theorem dX1_add_98 : decode cX1_add 98 = .ok (.aload_n 0, 1) := by decide +kernel
theorem dX1_add_99 : decode cX1_add 99 = .ok (.dup, 1) := by decide +kernel
theorem dX1_add_100 : decode cX1_add 100 = .ok (.getfield 42, 3) := by decide +kernel
theorem dX1_add_103 : decode cX1_add 103 = .ok (.iconst 1, 1) := by decide +kernel
theorem dX1_add_104 : decode cX1_add 104 = .ok (.iadd, 1) := by decide +kernel
theorem dX1_add_105 : decode cX1_add 105 = .ok (.putfield 42, 3) := by decide +kernel
theorem dX1_add_108 : decode cX1_add 108 = .ok (.iload 8, 2) := by decide +kernel
theorem dX1_add_110 : decode cX1_add 110 = .ok (.ireturn, 1) := by decide +kernel
theorem dX1_keepText_0 : decode cX1_keepText 0 = .ok (.new 50, 3) := by decide +kernel
theorem dX1_keepText_3 : decode cX1_keepText 3 = .ok (.dup, 1) := by decide +kernel
theorem dX1_keepText_4 : decode cX1_keepText 4 = .ok (.invokespecial 52, 3) := by decide +kernel
theorem dX1_keepText_7 : decode cX1_keepText 7 = .ok (.astore_n 2, 1) := by decide +kernel
theorem dX1_keepText_8 : decode cX1_keepText 8 = .ok (.aload_n 2, 1) := by decide +kernel
theorem dX1_keepText_9 : decode cX1_keepText 9 = .ok (.aload_n 0, 1) := by decide +kernel
theorem dX1_keepText_10 : decode cX1_keepText 10 = .ok (.getfield 9, 3) := by decide +kernel
theorem dX1_keepText_13 : decode cX1_keepText 13 = .ok (.iload_n 1, 1) := by decide +kernel
theorem dX1_keepText_14 : decode cX1_keepText 14 = .ok (.iaload, 1) := by decide +kernel
theorem dX1_keepText_15 : decode cX1_keepText 15 = .ok (.invokevirtual 53, 3) := by decide +kernel
theorem dX1_keepText_18 : decode cX1_keepText 18 = .ok (.ldc 57, 2) := by decide +kernel
theorem dX1_keepText_20 : decode cX1_keepText 20 = .ok (.invokevirtual 59, 3) := by decide +kernel
theorem dX1_keepText_23 : decode cX1_keepText 23 = .ok (.aload_n 0, 1) := by decide +kernel
theorem dX1_keepText_24 : decode cX1_keepText 24 = .ok (.getfield 18, 3) := by decide +kernel
theorem dX1_keepText_27 : decode cX1_keepText 27 = .ok (.iload_n 1, 1) := by decide +kernel
theorem dX1_keepText_28 : decode cX1_keepText 28 = .ok (.iaload, 1) := by decide +kernel
theorem dX1_keepText_29 : decode cX1_keepText 29 = .ok (.invokevirtual 53, 3) := by decide +kernel
theorem dX1_keepText_32 : decode cX1_keepText 32 = .ok (.pop, 1) := by decide +kernel
theorem dX1_keepText_33 : decode cX1_keepText 33 = .ok (.aload_n 2, 1) := by decide +kernel
theorem dX1_keepText_34 : decode cX1_keepText 34 = .ok (.ldc 62, 2) := by decide +kernel
theorem dX1_keepText_36 : decode cX1_keepText 36 = .ok (.invokevirtual 59, 3) := by decide +kernel
theorem dX1_keepText_39 : decode cX1_keepText 39 = .ok (.aload_n 0, 1) := by decide +kernel
theorem dX1_keepText_40 : decode cX1_keepText 40 = .ok (.getfield 15, 3) := by decide +kernel
theorem dX1_keepText_43 : decode cX1_keepText 43 = .ok (.iload_n 1, 1) := by decide +kernel
theorem dX1_keepText_44 : decode cX1_keepText 44 = .ok (.iaload, 1) := by decide +kernel
theorem dX1_keepText_45 : decode cX1_keepText 45 = .ok (.invokevirtual 53, 3) := by decide +kernel
theorem dX1_keepText_48 : decode cX1_keepText 48 = .ok (.pop, 1) := by decide +kernel
theorem dX1_keepText_49 : decode cX1_keepText 49 = .ok (.aload_n 0, 1) := by decide +kernel
theorem dX1_keepText_50 : decode cX1_keepText 50 = .ok (.getfield 30, 3) := by decide +kernel
theorem dX1_keepText_53 : decode cX1_keepText 53 = .ok (.iload_n 1, 1) := by decide +kernel
theorem dX1_keepText_54 : decode cX1_keepText 54 = .ok (.iaload, 1) := by decide +kernel
theorem dX1_keepText_55 : decode cX1_keepText 55 = .ok (.iconst (-1), 1) := by decide +kernel
theorem dX1_keepText_56 : decode cX1_keepText 56 = .ok (.if_icmp .eq 19, 3) := by decide +kernel
theorem dX1_keepText_59 : decode cX1_keepText 59 = .ok (.aload_n 2, 1) := by decide +kernel
theorem dX1_keepText_60 : decode cX1_keepText 60 = .ok (.ldc 64, 2) := by decide +kernel
theorem dX1_keepText_62 : decode cX1_keepText 62 = .ok (.invokevirtual 59, 3) := by decide +kernel
theorem dX1_keepText_65 : decode cX1_keepText 65 = .ok (.aload_n 0, 1) := by decide +kernel
theorem dX1_keepText_66 : decode cX1_keepText 66 = .ok (.getfield 30, 3) := by decide +kernel
theorem dX1_keepText_69 : decode cX1_keepText 69 = .ok (.iload_n 1, 1) := by decide +kernel
theorem dX1_keepText_70 : decode cX1_keepText 70 = .ok (.iaload, 1) := by decide +kernel
theorem dX1_keepText_71 : decode cX1_keepText 71 = .ok (.invokevirtual 53, 3) := by decide +kernel
theorem dX1_keepText_74 : decode cX1_keepText 74 = .ok (.pop, 1) := by decide +kernel
theorem dX1_keepText_75 : decode cX1_keepText 75 = .ok (.aload_n 2, 1) := by decide +kernel
theorem dX1_keepText_76 : decode cX1_keepText 76 = .ok (.bipush 46, 2) := by decide +kernel
theorem dX1_keepText_78 : decode cX1_keepText 78 = .ok (.invokevirtual 66, 3) := by decide +kernel
theorem dX1_keepText_81 : decode cX1_keepText 81 = .ok (.pop, 1) := by decide +kernel
theorem dX1_keepText_82 : decode cX1_keepText 82 = .ok (.aload_n 0, 1) := by decide +kernel
theorem dX1_keepText_83 : decode cX1_keepText 83 = .ok (.getfield 36, 3) := by decide +kernel
theorem dX1_keepText_86 : decode cX1_keepText 86 = .ok (.iload_n 1, 1) := by decide +kernel
theorem dX1_keepText_87 : decode cX1_keepText 87 = .ok (.aload_n 2, 1) := by decide +kernel
theorem dX1_keepText_88 : decode cX1_keepText 88 = .ok (.invokevirtual 69, 3) := by decide +kernel
theorem dX1_keepText_91 : decode cX1_keepText 91 = .ok (.iastore, 1) := by decide +kernel
theorem dX1_keepText_92 : decode cX1_keepText 92 = .ok (.aload_n 0, 1) := by decide +kernel
theorem dX1_keepText_93 : decode cX1_keepText 93 = .ok (.getfield 39, 3) := by decide +kernel
theorem dX1_keepText_96 : decode cX1_keepText 96 = .ok (.iload_n 1, 1) := by decide +kernel
theorem dX1_keepText_97 : decode cX1_keepText 97 = .ok (.aload_n 2, 1) := by decide +kernel
theorem dX1_keepText_98 : decode cX1_keepText 98 = .ok (.invokestatic 73, 3) := by decide +kernel
theorem dX1_keepText_101 : decode cX1_keepText 101 = .ok (.iastore, 1) := by decide +kernel
theorem dX1_keepText_102 : decode cX1_keepText 102 = .ok (.return_, 1) := by decide +kernel
theorem dX1_sealFor_0 : decode cX1_sealFor 0 = .ok (.bipush 11, 2) := by decide +kernel
theorem dX1_sealFor_2 : decode cX1_sealFor 2 = .ok (.istore_n 1, 1) := by decide +kernel
theorem dX1_sealFor_3 : decode cX1_sealFor 3 = .ok (.iconst 0, 1) := by decide +kernel
theorem dX1_sealFor_4 : decode cX1_sealFor 4 = .ok (.istore_n 2, 1) := by decide +kernel
theorem dX1_sealFor_5 : decode cX1_sealFor 5 = .ok (.iload_n 2, 1) := by decide +kernel
theorem dX1_sealFor_6 : decode cX1_sealFor 6 = .ok (.aload_n 0, 1) := by decide +kernel
theorem dX1_sealFor_7 : decode cX1_sealFor 7 = .ok (.invokevirtual 69, 3) := by decide +kernel
theorem dX1_sealFor_10 : decode cX1_sealFor 10 = .ok (.if_icmp .ge 20, 3) := by decide +kernel
theorem dX1_sealFor_13 : decode cX1_sealFor 13 = .ok (.iload_n 1, 1) := by decide +kernel
theorem dX1_sealFor_14 : decode cX1_sealFor 14 = .ok (.bipush 31, 2) := by decide +kernel
theorem dX1_sealFor_16 : decode cX1_sealFor 16 = .ok (.imul, 1) := by decide +kernel
theorem dX1_sealFor_17 : decode cX1_sealFor 17 = .ok (.aload_n 0, 1) := by decide +kernel
theorem dX1_sealFor_18 : decode cX1_sealFor 18 = .ok (.iload_n 2, 1) := by decide +kernel
theorem dX1_sealFor_19 : decode cX1_sealFor 19 = .ok (.invokevirtual 77, 3) := by decide +kernel
theorem dX1_sealFor_22 : decode cX1_sealFor 22 = .ok (.iadd, 1) := by decide +kernel
theorem dX1_sealFor_23 : decode cX1_sealFor 23 = .ok (.istore_n 1, 1) := by decide +kernel
theorem dX1_sealFor_24 : decode cX1_sealFor 24 = .ok (.iinc 2 1, 3) := by decide +kernel
theorem dX1_sealFor_27 : decode cX1_sealFor 27 = .ok (.goto (-22), 3) := by decide +kernel
theorem dX1_sealFor_30 : decode cX1_sealFor 30 = .ok (.iload_n 1, 1) := by decide +kernel
theorem dX1_sealFor_31 : decode cX1_sealFor 31 = .ok (.ireturn, 1) := by decide +kernel
theorem dX1_hangsSomehowOn_0 : decode cX1_hangsSomehowOn 0 = .ok (.iload_n 1, 1) := by decide +kernel
theorem dX1_hangsSomehowOn_1 : decode cX1_hangsSomehowOn 1 = .ok (.istore_n 3, 1) := by decide +kernel
theorem dX1_hangsSomehowOn_2 : decode cX1_hangsSomehowOn 2 = .ok (.aload_n 0, 1) := by decide +kernel
theorem dX1_hangsSomehowOn_3 : decode cX1_hangsSomehowOn 3 = .ok (.getfield 33, 3) := by decide +kernel
theorem dX1_hangsSomehowOn_6 : decode cX1_hangsSomehowOn 6 = .ok (.iload_n 1, 1) := by decide +kernel
theorem dX1_hangsSomehowOn_7 : decode cX1_hangsSomehowOn 7 = .ok (.iaload, 1) := by decide +kernel
theorem dX1_hangsSomehowOn_8 : decode cX1_hangsSomehowOn 8 = .ok (.istore 4, 2) := by decide +kernel
theorem dX1_hangsSomehowOn_10 : decode cX1_hangsSomehowOn 10 = .ok (.iload 4, 2) := by decide +kernel
theorem dX1_hangsSomehowOn_12 : decode cX1_hangsSomehowOn 12 = .ok (.ifCond .le 23, 3) := by decide +kernel
theorem dX1_hangsSomehowOn_15 : decode cX1_hangsSomehowOn 15 = .ok (.aload_n 0, 1) := by decide +kernel
theorem dX1_hangsSomehowOn_16 : decode cX1_hangsSomehowOn 16 = .ok (.getfield 30, 3) := by decide +kernel
theorem dX1_hangsSomehowOn_19 : decode cX1_hangsSomehowOn 19 = .ok (.iload_n 3, 1) := by decide +kernel
theorem dX1_hangsSomehowOn_20 : decode cX1_hangsSomehowOn 20 = .ok (.iaload, 1) := by decide +kernel
theorem dX1_hangsSomehowOn_21 : decode cX1_hangsSomehowOn 21 = .ok (.istore_n 3, 1) := by decide +kernel
theorem dX1_hangsSomehowOn_22 : decode cX1_hangsSomehowOn 22 = .ok (.iload_n 3, 1) := by decide +kernel
theorem dX1_hangsSomehowOn_23 : decode cX1_hangsSomehowOn 23 = .ok (.iload_n 2, 1) := by decide +kernel
theorem dX1_hangsSomehowOn_24 : decode cX1_hangsSomehowOn 24 = .ok (.if_icmp .ne 5, 3) := by decide +kernel
theorem dX1_hangsSomehowOn_27 : decode cX1_hangsSomehowOn 27 = .ok (.iconst 1, 1) := by decide +kernel
theorem dX1_hangsSomehowOn_28 : decode cX1_hangsSomehowOn 28 = .ok (.ireturn, 1) := by decide +kernel
theorem dX1_hangsSomehowOn_29 : decode cX1_hangsSomehowOn 29 = .ok (.iinc 4 (-1), 3) := by decide +kernel
theorem dX1_hangsSomehowOn_32 : decode cX1_hangsSomehowOn 32 = .ok (.goto (-22), 3) := by decide +kernel
theorem dX1_hangsSomehowOn_35 : decode cX1_hangsSomehowOn 35 = .ok (.iconst 0, 1) := by decide +kernel
theorem dX1_hangsSomehowOn_36 : decode cX1_hangsSomehowOn 36 = .ok (.ireturn, 1) := by decide +kernel
theorem dX2_init_0 : decode cX2_init 0 = .ok (.aload_n 0, 1) := by decide +kernel
theorem dX2_init_1 : decode cX2_init 1 = .ok (.invokespecial 1, 3) := by decide +kernel
theorem dX2_init_4 : decode cX2_init 4 = .ok (.new 7, 3) := by decide +kernel
theorem dX2_init_7 : decode cX2_init 7 = .ok (.dup, 1) := by decide +kernel
theorem dX2_init_8 : decode cX2_init 8 = .ok (.invokespecial 9, 3) := by decide +kernel
theorem dX2_init_11 : decode cX2_init 11 = .ok (.astore_n 1, 1) := by decide +kernel
theorem dX2_init_12 : decode cX2_init 12 = .ok (.aload_n 0, 1) := by decide +kernel
theorem dX2_init_13 : decode cX2_init 13 = .ok (.aload_n 1, 1) := by decide +kernel
theorem dX2_init_14 : decode cX2_init 14 = .ok (.putfield 10, 3) := by decide +kernel
theorem dX2_init_17 : decode cX2_init 17 = .ok (.aload_n 0, 1) := by decide +kernel
theorem dX2_init_18 : decode cX2_init 18 = .ok (.new 16, 3) := by decide +kernel
theorem dX2_init_21 : decode cX2_init 21 = .ok (.dup, 1) := by decide +kernel
theorem dX2_init_22 : decode cX2_init 22 = .ok (.aload_n 1, 1) := by decide +kernel
theorem dX2_init_23 : decode cX2_init 23 = .ok (.invokespecial 18, 3) := by decide +kernel
theorem dX2_init_26 : decode cX2_init 26 = .ok (.putfield 21, 3) := by decide +kernel
theorem dX2_init_29 : decode cX2_init 29 = .ok (.aload_n 0, 1) := by decide +kernel
theorem dX2_init_30 : decode cX2_init 30 = .ok (.new 16, 3) := by decide +kernel
theorem dX2_init_33 : decode cX2_init 33 = .ok (.dup, 1) := by decide +kernel
theorem dX2_init_34 : decode cX2_init 34 = .ok (.aload_n 1, 1) := by decide +kernel
theorem dX2_init_35 : decode cX2_init 35 = .ok (.invokespecial 18, 3) := by decide +kernel
theorem dX2_init_38 : decode cX2_init 38 = .ok (.putfield 25, 3) := by decide +kernel
theorem dX2_init_41 : decode cX2_init 41 = .ok (.return_, 1) := by decide +kernel
theorem dX2_addParty_0 : decode cX2_addParty 0 = .ok (.iload_n 1, 1) := by decide +kernel
theorem dX2_addParty_1 : decode cX2_addParty 1 = .ok (.iconst 0, 1) := by decide +kernel
theorem dX2_addParty_2 : decode cX2_addParty 2 = .ok (.sipush 500, 3) := by decide +kernel
theorem dX2_addParty_5 : decode cX2_addParty 5 = .ok (.invokestatic 28, 3) := by decide +kernel
theorem dX2_addParty_8 : decode cX2_addParty 8 = .ok (.aload_n 0, 1) := by decide +kernel
theorem dX2_addParty_9 : decode cX2_addParty 9 = .ok (.getfield 32, 3) := by decide +kernel
theorem dX2_addParty_12 : decode cX2_addParty 12 = .ok (.bipush 6, 2) := by decide +kernel
theorem dX2_addParty_14 : decode cX2_addParty 14 = .ok (.if_icmp .lt 13, 3) := by decide +kernel
theorem dX2_addParty_17 : decode cX2_addParty 17 = .ok (.new 36, 3) := by decide +kernel
theorem dX2_addParty_20 : decode cX2_addParty 20 = .ok (.dup, 1) := by decide +kernel
theorem dX2_addParty_21 : decode cX2_addParty 21 = .ok (.ldc 38, 2) := by decide +kernel
theorem dX2_addParty_23 : decode cX2_addParty 23 = .ok (.invokespecial 40, 3) := by decide +kernel
theorem dX2_addParty_26 : decode cX2_addParty 26 = .ok (.athrow, 1) := by decide +kernel
theorem dX2_addParty_27 : decode cX2_addParty 27 = .ok (.aload_n 0, 1) := by decide +kernel
theorem dX2_addParty_28 : decode cX2_addParty 28 = .ok (.getfield 32, 3) := by decide +kernel
theorem dX2_addParty_31 : decode cX2_addParty 31 = .ok (.istore_n 2, 1) := by decide +kernel
theorem dX2_addParty_32 : decode cX2_addParty 32 = .ok (.aload_n 0, 1) := by decide +kernel
theorem dX2_addParty_33 : decode cX2_addParty 33 = .ok (.getfield 21, 3) := by decide +kernel
theorem dX2_addParty_36 : decode cX2_addParty 36 = .ok (.getfield 43, 3) := by decide +kernel
theorem dX2_addParty_39 : decode cX2_addParty 39 = .ok (.iload_n 2, 1) := by decide +kernel
theorem dX2_addParty_40 : decode cX2_addParty 40 = .ok (.iload_n 1, 1) := by decide +kernel
theorem dX2_addParty_41 : decode cX2_addParty 41 = .ok (.iastore, 1) := by decide +kernel
theorem dX2_addParty_42 : decode cX2_addParty 42 = .ok (.aload_n 0, 1) := by decide +kernel
theorem dX2_addParty_43 : decode cX2_addParty 43 = .ok (.dup, 1) := by decide +kernel
theorem dX2_addParty_44 : decode cX2_addParty 44 = .ok (.getfield 32, 3) := by decide +kernel
theorem dX2_addParty_47 : decode cX2_addParty 47 = .ok (.iconst 1, 1) := by decide +kernel
theorem dX2_addParty_48 : decode cX2_addParty 48 = .ok (.iadd, 1) := by decide +kernel
theorem dX2_addParty_49 : decode cX2_addParty 49 = .ok (.putfield 32, 3) := by decide +kernel
theorem dX2_addParty_52 : decode cX2_addParty 52 = .ok (.iload_n 2, 1) := by decide +kernel
theorem dX2_addParty_53 : decode cX2_addParty 53 = .ok (.ireturn, 1) := by decide +kernel
theorem dX2_addDuty_0 : decode cX2_addDuty 0 = .ok (.aload_n 0, 1) := by decide +kernel
theorem dX2_addDuty_1 : decode cX2_addDuty 1 = .ok (.iload_n 1, 1) := by decide +kernel
theorem dX2_addDuty_2 : decode cX2_addDuty 2 = .ok (.invokevirtual 47, 3) := by decide +kernel
theorem dX2_addDuty_5 : decode cX2_addDuty 5 = .ok (.aload_n 0, 1) := by decide +kernel
theorem dX2_addDuty_6 : decode cX2_addDuty 6 = .ok (.iload_n 2, 1) := by decide +kernel
theorem dX2_addDuty_7 : decode cX2_addDuty 7 = .ok (.invokevirtual 47, 3) := by decide +kernel
theorem dX2_addDuty_10 : decode cX2_addDuty 10 = .ok (.iload 7, 2) := by decide +kernel
theorem dX2_addDuty_12 : decode cX2_addDuty 12 = .ok (.iconst (-1), 1) := by decide +kernel
theorem dX2_addDuty_13 : decode cX2_addDuty 13 = .ok (.if_icmp .eq 9, 3) := by decide +kernel
theorem dX2_addDuty_16 : decode cX2_addDuty 16 = .ok (.aload_n 0, 1) := by decide +kernel
theorem dX2_addDuty_17 : decode cX2_addDuty 17 = .ok (.iload 7, 2) := by decide +kernel
theorem dX2_addDuty_19 : decode cX2_addDuty 19 = .ok (.invokevirtual 51, 3) := by decide +kernel
theorem dX2_addDuty_22 : decode cX2_addDuty 22 = .ok (.iload_n 1, 1) := by decide +kernel
theorem dX2_addDuty_23 : decode cX2_addDuty 23 = .ok (.iload_n 2, 1) := by decide +kernel
theorem dX2_addDuty_24 : decode cX2_addDuty 24 = .ok (.if_icmp .ne 13, 3) := by decide +kernel
theorem dX2_addDuty_27 : decode cX2_addDuty 27 = .ok (.new 54, 3) := by decide +kernel
theorem dX2_addDuty_30 : decode cX2_addDuty 30 = .ok (.dup, 1) := by decide +kernel
theorem dX2_addDuty_31 : decode cX2_addDuty 31 = .ok (.ldc 56, 2) := by decide +kernel
theorem dX2_addDuty_33 : decode cX2_addDuty 33 = .ok (.invokespecial 58, 3) := by decide +kernel
theorem dX2_addDuty_36 : decode cX2_addDuty 36 = .ok (.athrow, 1) := by decide +kernel
theorem dX2_addDuty_37 : decode cX2_addDuty 37 = .ok (.iload_n 3, 1) := by decide +kernel
theorem dX2_addDuty_38 : decode cX2_addDuty 38 = .ok (.iconst 1, 1) := by decide +kernel
theorem dX2_addDuty_39 : decode cX2_addDuty 39 = .ok (.bipush 50, 2) := by decide +kernel
theorem dX2_addDuty_41 : decode cX2_addDuty 41 = .ok (.invokestatic 28, 3) := by decide +kernel
theorem dX2_addDuty_44 : decode cX2_addDuty 44 = .ok (.iload 4, 2) := by decide +kernel
theorem dX2_addDuty_46 : decode cX2_addDuty 46 = .ok (.iconst 1, 1) := by decide +kernel
theorem dX2_addDuty_47 : decode cX2_addDuty 47 = .ok (.bipush 30, 2) := by decide +kernel
theorem dX2_addDuty_49 : decode cX2_addDuty 49 = .ok (.invokestatic 28, 3) := by decide +kernel
theorem dX2_addDuty_52 : decode cX2_addDuty 52 = .ok (.iload 5, 2) := by decide +kernel
theorem dX2_addDuty_54 : decode cX2_addDuty 54 = .ok (.iconst 0, 1) := by decide +kernel
theorem dX2_addDuty_55 : decode cX2_addDuty 55 = .ok (.bipush 10, 2) := by decide +kernel
theorem dX2_addDuty_57 : decode cX2_addDuty 57 = .ok (.invokestatic 28, 3) := by decide +kernel
theorem dX2_addDuty_60 : decode cX2_addDuty 60 = .ok (.iload 6, 2) := by decide +kernel
theorem dX2_addDuty_62 : decode cX2_addDuty 62 = .ok (.iconst 0, 1) := by decide +kernel
theorem dX2_addDuty_63 : decode cX2_addDuty 63 = .ok (.bipush 20, 2) := by decide +kernel
theorem dX2_addDuty_65 : decode cX2_addDuty 65 = .ok (.invokestatic 28, 3) := by decide +kernel
theorem dX2_addDuty_68 : decode cX2_addDuty 68 = .ok (.aload_n 0, 1) := by decide +kernel
theorem dX2_addDuty_69 : decode cX2_addDuty 69 = .ok (.getfield 10, 3) := by decide +kernel
theorem dX2_addDuty_72 : decode cX2_addDuty 72 = .ok (.getfield 59, 3) := by decide +kernel
theorem dX2_addDuty_75 : decode cX2_addDuty 75 = .ok (.bipush 20, 2) := by decide +kernel
theorem dX2_addDuty_77 : decode cX2_addDuty 77 = .ok (.if_icmp .lt 13, 3) := by decide +kernel
theorem dX2_addDuty_80 : decode cX2_addDuty 80 = .ok (.new 36, 3) := by decide +kernel
theorem dX2_addDuty_83 : decode cX2_addDuty 83 = .ok (.dup, 1) := by decide +kernel
theorem dX2_addDuty_84 : decode cX2_addDuty 84 = .ok (.ldc 62, 2) := by decide +kernel
theorem dX2_addDuty_86 : decode cX2_addDuty 86 = .ok (.invokespecial 40, 3) := by decide +kernel
theorem dX2_addDuty_89 : decode cX2_addDuty 89 = .ok (.athrow, 1) := by decide +kernel
theorem dX2_addDuty_90 : decode cX2_addDuty 90 = .ok (.aload_n 0, 1) := by decide +kernel
theorem dX2_addDuty_91 : decode cX2_addDuty 91 = .ok (.getfield 21, 3) := by decide +kernel
theorem dX2_addDuty_94 : decode cX2_addDuty 94 = .ok (.iload 7, 2) := by decide +kernel
theorem dX2_addDuty_96 : decode cX2_addDuty 96 = .ok (.invokevirtual 64, 3) := by decide +kernel
theorem dX2_addDuty_99 : decode cX2_addDuty 99 = .ok (.ifCond .eq 13, 3) := by decide +kernel
theorem dX2_addDuty_102 : decode cX2_addDuty 102 = .ok (.new 36, 3) := by decide +kernel
theorem dX2_addDuty_105 : decode cX2_addDuty 105 = .ok (.dup, 1) := by decide +kernel
theorem dX2_addDuty_106 : decode cX2_addDuty 106 = .ok (.ldc 68, 2) := by decide +kernel
theorem dX2_addDuty_108 : decode cX2_addDuty 108 = .ok (.invokespecial 40, 3) := by decide +kernel
theorem dX2_addDuty_111 : decode cX2_addDuty 111 = .ok (.athrow, 1) := by decide +kernel
theorem dX2_addDuty_112 : decode cX2_addDuty 112 = .ok (.aload_n 0, 1) := by decide +kernel
theorem dX2_addDuty_113 : decode cX2_addDuty 113 = .ok (.getfield 10, 3) := by decide +kernel
theorem dX2_addDuty_116 : decode cX2_addDuty 116 = .ok (.iload_n 1, 1) := by decide +kernel
theorem dX2_addDuty_117 : decode cX2_addDuty 117 = .ok (.iload_n 2, 1) := by decide +kernel
theorem dX2_addDuty_118 : decode cX2_addDuty 118 = .ok (.iload_n 3, 1) := by decide +kernel
theorem dX2_addDuty_119 : decode cX2_addDuty 119 = .ok (.iload 4, 2) := by decide +kernel
theorem dX2_addDuty_121 : decode cX2_addDuty 121 = .ok (.iload 5, 2) := by decide +kernel
theorem dX2_addDuty_123 : decode cX2_addDuty 123 = .ok (.iload 6, 2) := by decide +kernel
theorem dX2_addDuty_125 : decode cX2_addDuty 125 = .ok (.iload 7, 2) := by decide +kernel
theorem dX2_addDuty_127 : decode cX2_addDuty 127 = .ok (.invokevirtual 70, 3) := by decide +kernel
theorem dX2_addDuty_130 : decode cX2_addDuty 130 = .ok (.istore 8, 2) := by decide +kernel
theorem dX2_addDuty_132 : decode cX2_addDuty 132 = .ok (.aload_n 0, 1) := by decide +kernel
theorem dX2_addDuty_133 : decode cX2_addDuty 133 = .ok (.getfield 21, 3) := by decide +kernel
theorem dX2_addDuty_136 : decode cX2_addDuty 136 = .ok (.iload 8, 2) := by decide +kernel
theorem dX2_addDuty_138 : decode cX2_addDuty 138 = .ok (.invokevirtual 74, 3) := by decide +kernel
theorem dX2_addDuty_141 : decode cX2_addDuty 141 = .ok (.iload 8, 2) := by decide +kernel
theorem dX2_addDuty_143 : decode cX2_addDuty 143 = .ok (.ireturn, 1) := by decide +kernel
theorem dX2_pay_0 : decode cX2_pay 0 = .ok (.aload_n 0, 1) := by decide +kernel
theorem dX2_pay_1 : decode cX2_pay 1 = .ok (.iload_n 1, 1) := by decide +kernel
theorem dX2_pay_2 : decode cX2_pay 2 = .ok (.invokevirtual 51, 3) := by decide +kernel
theorem dX2_pay_5 : decode cX2_pay 5 = .ok (.aload_n 0, 1) := by decide +kernel
theorem dX2_pay_6 : decode cX2_pay 6 = .ok (.getfield 21, 3) := by decide +kernel
theorem dX2_pay_9 : decode cX2_pay 9 = .ok (.iload_n 1, 1) := by decide +kernel
theorem dX2_pay_10 : decode cX2_pay 10 = .ok (.invokevirtual 77, 3) := by decide +kernel
theorem dX2_pay_13 : decode cX2_pay 13 = .ok (.ifCond .ne 13, 3) := by decide +kernel
theorem dX2_pay_16 : decode cX2_pay 16 = .ok (.new 36, 3) := by decide +kernel
theorem dX2_pay_19 : decode cX2_pay 19 = .ok (.dup, 1) := by decide +kernel
theorem dX2_pay_20 : decode cX2_pay 20 = .ok (.ldc 80, 2) := by decide +kernel
theorem dX2_pay_22 : decode cX2_pay 22 = .ok (.invokespecial 40, 3) := by decide +kernel
theorem dX2_pay_25 : decode cX2_pay 25 = .ok (.athrow, 1) := by decide +kernel
theorem dX2_pay_26 : decode cX2_pay 26 = .ok (.aload_n 0, 1) := by decide +kernel
theorem dX2_pay_27 : decode cX2_pay 27 = .ok (.getfield 21, 3) := by decide +kernel
theorem dX2_pay_30 : decode cX2_pay 30 = .ok (.iload_n 1, 1) := by decide +kernel
theorem dX2_pay_31 : decode cX2_pay 31 = .ok (.invokevirtual 82, 3) := by decide +kernel
theorem dX2_pay_34 : decode cX2_pay 34 = .ok (.istore_n 2, 1) := by decide +kernel
theorem dX2_pay_35 : decode cX2_pay 35 = .ok (.aload_n 0, 1) := by decide +kernel
theorem dX2_pay_36 : decode cX2_pay 36 = .ok (.getfield 21, 3) := by decide +kernel
theorem dX2_pay_39 : decode cX2_pay 39 = .ok (.iload_n 1, 1) := by decide +kernel
theorem dX2_pay_40 : decode cX2_pay 40 = .ok (.invokevirtual 86, 3) := by decide +kernel
theorem dX2_pay_43 : decode cX2_pay 43 = .ok (.iload_n 2, 1) := by decide +kernel
theorem dX2_pay_44 : decode cX2_pay 44 = .ok (.ireturn, 1) := by decide +kernel
theorem dX2_release_0 : decode cX2_release 0 = .ok (.aload_n 0, 1) := by decide +kernel
theorem dX2_release_1 : decode cX2_release 1 = .ok (.iload_n 1, 1) := by decide +kernel
theorem dX2_release_2 : decode cX2_release 2 = .ok (.invokevirtual 51, 3) := by decide +kernel
theorem dX2_release_5 : decode cX2_release 5 = .ok (.aload_n 0, 1) := by decide +kernel
theorem dX2_release_6 : decode cX2_release 6 = .ok (.getfield 21, 3) := by decide +kernel
theorem dX2_release_9 : decode cX2_release 9 = .ok (.getfield 89, 3) := by decide +kernel
theorem dX2_release_12 : decode cX2_release 12 = .ok (.iload_n 1, 1) := by decide +kernel
theorem dX2_release_13 : decode cX2_release 13 = .ok (.iaload, 1) := by decide +kernel
theorem dX2_release_14 : decode cX2_release 14 = .ok (.ifCond .eq 24, 3) := by decide +kernel
theorem dX2_release_17 : decode cX2_release 17 = .ok (.aload_n 0, 1) := by decide +kernel
theorem dX2_release_18 : decode cX2_release 18 = .ok (.getfield 21, 3) := by decide +kernel
theorem dX2_release_21 : decode cX2_release 21 = .ok (.iload_n 1, 1) := by decide +kernel
theorem dX2_release_22 : decode cX2_release 22 = .ok (.invokevirtual 92, 3) := by decide +kernel
theorem dX2_release_25 : decode cX2_release 25 = .ok (.ifCond .ne 13, 3) := by decide +kernel
theorem dX2_release_28 : decode cX2_release 28 = .ok (.new 36, 3) := by decide +kernel
theorem dX2_release_31 : decode cX2_release 31 = .ok (.dup, 1) := by decide +kernel
theorem dX2_release_32 : decode cX2_release 32 = .ok (.ldc 95, 2) := by decide +kernel
theorem dX2_release_34 : decode cX2_release 34 = .ok (.invokespecial 40, 3) := by decide +kernel
theorem dX2_release_37 : decode cX2_release 37 = .ok (.athrow, 1) := by decide +kernel
theorem dX2_release_38 : decode cX2_release 38 = .ok (.aload_n 0, 1) := by decide +kernel
theorem dX2_release_39 : decode cX2_release 39 = .ok (.getfield 21, 3) := by decide +kernel
theorem dX2_release_42 : decode cX2_release 42 = .ok (.iload_n 1, 1) := by decide +kernel
theorem dX2_release_43 : decode cX2_release 43 = .ok (.iconst 5, 1) := by decide +kernel
theorem dX2_release_44 : decode cX2_release 44 = .ok (.invokevirtual 97, 3) := by decide +kernel
theorem dX2_release_47 : decode cX2_release 47 = .ok (.iconst 1, 1) := by decide +kernel
theorem dX2_release_48 : decode cX2_release 48 = .ok (.aload_n 0, 1) := by decide +kernel
theorem dX2_release_49 : decode cX2_release 49 = .ok (.getfield 21, 3) := by decide +kernel
theorem dX2_release_52 : decode cX2_release 52 = .ok (.iload_n 1, 1) := by decide +kernel
theorem dX2_release_53 : decode cX2_release 53 = .ok (.invokevirtual 101, 3) := by decide +kernel
theorem dX2_release_56 : decode cX2_release 56 = .ok (.iadd, 1) := by decide +kernel
theorem dX2_release_57 : decode cX2_release 57 = .ok (.ireturn, 1) := by decide +kernel
theorem dX2_stop_0 : decode cX2_stop 0 = .ok (.aload_n 0, 1) := by decide +kernel
theorem dX2_stop_1 : decode cX2_stop 1 = .ok (.iload_n 1, 1) := by decide +kernel
theorem dX2_stop_2 : decode cX2_stop 2 = .ok (.invokevirtual 51, 3) := by decide +kernel
theorem dX2_stop_5 : decode cX2_stop 5 = .ok (.iload_n 2, 1) := by decide +kernel
theorem dX2_stop_6 : decode cX2_stop 6 = .ok (.iconst 0, 1) := by decide +kernel
theorem dX2_stop_7 : decode cX2_stop 7 = .ok (.bipush 20, 2) := by decide +kernel
theorem dX2_stop_9 : decode cX2_stop 9 = .ok (.invokestatic 28, 3) := by decide +kernel
theorem dX2_stop_12 : decode cX2_stop 12 = .ok (.aload_n 0, 1) := by decide +kernel
theorem dX2_stop_13 : decode cX2_stop 13 = .ok (.getfield 21, 3) := by decide +kernel
theorem dX2_stop_16 : decode cX2_stop 16 = .ok (.iload_n 1, 1) := by decide +kernel
theorem dX2_stop_17 : decode cX2_stop 17 = .ok (.invokevirtual 92, 3) := by decide +kernel
theorem dX2_stop_20 : decode cX2_stop 20 = .ok (.ifCond .ne 13, 3) := by decide +kernel
theorem dX2_stop_23 : decode cX2_stop 23 = .ok (.new 36, 3) := by decide +kernel
theorem dX2_stop_26 : decode cX2_stop 26 = .ok (.dup, 1) := by decide +kernel
theorem dX2_stop_27 : decode cX2_stop 27 = .ok (.ldc 104, 2) := by decide +kernel
theorem dX2_stop_29 : decode cX2_stop 29 = .ok (.invokespecial 40, 3) := by decide +kernel
theorem dX2_stop_32 : decode cX2_stop 32 = .ok (.athrow, 1) := by decide +kernel
theorem dX2_stop_33 : decode cX2_stop 33 = .ok (.aload_n 0, 1) := by decide +kernel
theorem dX2_stop_34 : decode cX2_stop 34 = .ok (.getfield 21, 3) := by decide +kernel
theorem dX2_stop_37 : decode cX2_stop 37 = .ok (.getfield 106, 3) := by decide +kernel
theorem dX2_stop_40 : decode cX2_stop 40 = .ok (.iload_n 1, 1) := by decide +kernel
theorem dX2_stop_41 : decode cX2_stop 41 = .ok (.iaload, 1) := by decide +kernel
theorem dX2_stop_42 : decode cX2_stop 42 = .ok (.istore_n 3, 1) := by decide +kernel
theorem dX2_stop_43 : decode cX2_stop 43 = .ok (.aload_n 0, 1) := by decide +kernel
theorem dX2_stop_44 : decode cX2_stop 44 = .ok (.getfield 21, 3) := by decide +kernel
theorem dX2_stop_47 : decode cX2_stop 47 = .ok (.getfield 106, 3) := by decide +kernel
theorem dX2_stop_50 : decode cX2_stop 50 = .ok (.iload_n 1, 1) := by decide +kernel
theorem dX2_stop_51 : decode cX2_stop 51 = .ok (.iload_n 2, 1) := by decide +kernel
theorem dX2_stop_52 : decode cX2_stop 52 = .ok (.iastore, 1) := by decide +kernel
theorem dX2_stop_53 : decode cX2_stop 53 = .ok (.iload_n 3, 1) := by decide +kernel
theorem dX2_stop_54 : decode cX2_stop 54 = .ok (.ireturn, 1) := by decide +kernel
theorem dX2_give_0 : decode cX2_give 0 = .ok (.aload_n 0, 1) := by decide +kernel
theorem dX2_give_1 : decode cX2_give 1 = .ok (.iload_n 1, 1) := by decide +kernel
theorem dX2_give_2 : decode cX2_give 2 = .ok (.invokevirtual 47, 3) := by decide +kernel
theorem dX2_give_5 : decode cX2_give 5 = .ok (.iload_n 2, 1) := by decide +kernel
theorem dX2_give_6 : decode cX2_give 6 = .ok (.iconst 1, 1) := by decide +kernel
theorem dX2_give_7 : decode cX2_give 7 = .ok (.sipush 500, 3) := by decide +kernel
theorem dX2_give_10 : decode cX2_give 10 = .ok (.invokestatic 28, 3) := by decide +kernel
theorem dX2_give_13 : decode cX2_give 13 = .ok (.aload_n 0, 1) := by decide +kernel
theorem dX2_give_14 : decode cX2_give 14 = .ok (.getfield 21, 3) := by decide +kernel
theorem dX2_give_17 : decode cX2_give 17 = .ok (.getfield 43, 3) := by decide +kernel
theorem dX2_give_20 : decode cX2_give 20 = .ok (.iload_n 1, 1) := by decide +kernel
theorem dX2_give_21 : decode cX2_give 21 = .ok (.dup2, 1) := by decide +kernel
theorem dX2_give_22 : decode cX2_give 22 = .ok (.iaload, 1) := by decide +kernel
theorem dX2_give_23 : decode cX2_give 23 = .ok (.iload_n 2, 1) := by decide +kernel
theorem dX2_give_24 : decode cX2_give 24 = .ok (.iadd, 1) := by decide +kernel
theorem dX2_give_25 : decode cX2_give 25 = .ok (.iastore, 1) := by decide +kernel
theorem dX2_give_26 : decode cX2_give 26 = .ok (.aload_n 0, 1) := by decide +kernel
theorem dX2_give_27 : decode cX2_give 27 = .ok (.getfield 21, 3) := by decide +kernel
theorem dX2_give_30 : decode cX2_give 30 = .ok (.getfield 43, 3) := by decide +kernel
theorem dX2_give_33 : decode cX2_give 33 = .ok (.iload_n 1, 1) := by decide +kernel
theorem dX2_give_34 : decode cX2_give 34 = .ok (.iaload, 1) := by decide +kernel
theorem dX2_give_35 : decode cX2_give 35 = .ok (.ireturn, 1) := by decide +kernel
theorem dX2_pass_0 : decode cX2_pass 0 = .ok (.iload_n 1, 1) := by decide +kernel
theorem dX2_pass_1 : decode cX2_pass 1 = .ok (.iconst 1, 1) := by decide +kernel
theorem dX2_pass_2 : decode cX2_pass 2 = .ok (.bipush 60, 2) := by decide +kernel
theorem dX2_pass_4 : decode cX2_pass 4 = .ok (.invokestatic 28, 3) := by decide +kernel
theorem dX2_pass_7 : decode cX2_pass 7 = .ok (.aload_n 0, 1) := by decide +kernel
theorem dX2_pass_8 : decode cX2_pass 8 = .ok (.dup, 1) := by decide +kernel
theorem dX2_pass_9 : decode cX2_pass 9 = .ok (.getfield 109, 3) := by decide +kernel
theorem dX2_pass_12 : decode cX2_pass 12 = .ok (.iload_n 1, 1) := by decide +kernel
theorem dX2_pass_13 : decode cX2_pass 13 = .ok (.iadd, 1) := by decide +kernel
theorem dX2_pass_14 : decode cX2_pass 14 = .ok (.putfield 109, 3) := by decide +kernel
theorem dX2_pass_17 : decode cX2_pass 17 = .ok (.aload_n 0, 1) := by decide +kernel
theorem dX2_pass_18 : decode cX2_pass 18 = .ok (.getfield 21, 3) := by decide +kernel
theorem dX2_pass_21 : decode cX2_pass 21 = .ok (.iload_n 1, 1) := by decide +kernel
theorem dX2_pass_22 : decode cX2_pass 22 = .ok (.invokevirtual 112, 3) := by decide +kernel
theorem dX2_pass_25 : decode cX2_pass 25 = .ok (.ireturn, 1) := by decide +kernel
theorem dX2_day_0 : decode cX2_day 0 = .ok (.aload_n 0, 1) := by decide +kernel
theorem dX2_day_1 : decode cX2_day 1 = .ok (.getfield 109, 3) := by decide +kernel
theorem dX2_day_4 : decode cX2_day 4 = .ok (.ireturn, 1) := by decide +kernel
theorem dX2_parties_0 : decode cX2_parties 0 = .ok (.aload_n 0, 1) := by decide +kernel
theorem dX2_parties_1 : decode cX2_parties 1 = .ok (.getfield 32, 3) := by decide +kernel
theorem dX2_parties_4 : decode cX2_parties 4 = .ok (.ireturn, 1) := by decide +kernel
theorem dX2_duties_0 : decode cX2_duties 0 = .ok (.aload_n 0, 1) := by decide +kernel
theorem dX2_duties_1 : decode cX2_duties 1 = .ok (.getfield 10, 3) := by decide +kernel
theorem dX2_duties_4 : decode cX2_duties 4 = .ok (.getfield 59, 3) := by decide +kernel
theorem dX2_duties_7 : decode cX2_duties 7 = .ok (.ireturn, 1) := by decide +kernel
theorem dX2_inState_0 : decode cX2_inState 0 = .ok (.iload_n 1, 1) := by decide +kernel
theorem dX2_inState_1 : decode cX2_inState 1 = .ok (.iconst 0, 1) := by decide +kernel
theorem dX2_inState_2 : decode cX2_inState 2 = .ok (.iconst 5, 1) := by decide +kernel
theorem dX2_inState_3 : decode cX2_inState 3 = .ok (.invokestatic 28, 3) := by decide +kernel
theorem dX2_inState_6 : decode cX2_inState 6 = .ok (.iconst 0, 1) := by decide +kernel
theorem dX2_inState_7 : decode cX2_inState 7 = .ok (.istore_n 2, 1) := by decide +kernel
theorem dX2_inState_8 : decode cX2_inState 8 = .ok (.iconst 0, 1) := by decide +kernel
theorem dX2_inState_9 : decode cX2_inState 9 = .ok (.istore_n 3, 1) := by decide +kernel
theorem dX2_inState_10 : decode cX2_inState 10 = .ok (.iload_n 3, 1) := by decide +kernel
theorem dX2_inState_11 : decode cX2_inState 11 = .ok (.aload_n 0, 1) := by decide +kernel
theorem dX2_inState_12 : decode cX2_inState 12 = .ok (.getfield 10, 3) := by decide +kernel
theorem dX2_inState_15 : decode cX2_inState 15 = .ok (.getfield 59, 3) := by decide +kernel
theorem dX2_inState_18 : decode cX2_inState 18 = .ok (.if_icmp .ge 25, 3) := by decide +kernel
theorem dX2_inState_21 : decode cX2_inState 21 = .ok (.aload_n 0, 1) := by decide +kernel
theorem dX2_inState_22 : decode cX2_inState 22 = .ok (.getfield 21, 3) := by decide +kernel
theorem dX2_inState_25 : decode cX2_inState 25 = .ok (.getfield 89, 3) := by decide +kernel
theorem dX2_inState_28 : decode cX2_inState 28 = .ok (.iload_n 3, 1) := by decide +kernel
theorem dX2_inState_29 : decode cX2_inState 29 = .ok (.iaload, 1) := by decide +kernel
theorem dX2_inState_30 : decode cX2_inState 30 = .ok (.iload_n 1, 1) := by decide +kernel
theorem dX2_inState_31 : decode cX2_inState 31 = .ok (.if_icmp .ne 6, 3) := by decide +kernel
theorem dX2_inState_34 : decode cX2_inState 34 = .ok (.iinc 2 1, 3) := by decide +kernel
theorem dX2_inState_37 : decode cX2_inState 37 = .ok (.iinc 3 1, 3) := by decide +kernel
theorem dX2_inState_40 : decode cX2_inState 40 = .ok (.goto (-30), 3) := by decide +kernel
theorem dX2_inState_43 : decode cX2_inState 43 = .ok (.iload_n 2, 1) := by decide +kernel
theorem dX2_inState_44 : decode cX2_inState 44 = .ok (.ireturn, 1) := by decide +kernel
theorem dX2_purseOf_0 : decode cX2_purseOf 0 = .ok (.aload_n 0, 1) := by decide +kernel
theorem dX2_purseOf_1 : decode cX2_purseOf 1 = .ok (.iload_n 1, 1) := by decide +kernel
theorem dX2_purseOf_2 : decode cX2_purseOf 2 = .ok (.invokevirtual 47, 3) := by decide +kernel
theorem dX2_purseOf_5 : decode cX2_purseOf 5 = .ok (.aload_n 0, 1) := by decide +kernel
theorem dX2_purseOf_6 : decode cX2_purseOf 6 = .ok (.getfield 21, 3) := by decide +kernel
theorem dX2_purseOf_9 : decode cX2_purseOf 9 = .ok (.getfield 43, 3) := by decide +kernel
theorem dX2_purseOf_12 : decode cX2_purseOf 12 = .ok (.iload_n 1, 1) := by decide +kernel
theorem dX2_purseOf_13 : decode cX2_purseOf 13 = .ok (.iaload, 1) := by decide +kernel
theorem dX2_purseOf_14 : decode cX2_purseOf 14 = .ok (.ireturn, 1) := by decide +kernel
theorem dX2_penalties_0 : decode cX2_penalties 0 = .ok (.aload_n 0, 1) := by decide +kernel
theorem dX2_penalties_1 : decode cX2_penalties 1 = .ok (.getfield 21, 3) := by decide +kernel
theorem dX2_penalties_4 : decode cX2_penalties 4 = .ok (.getfield 115, 3) := by decide +kernel
theorem dX2_penalties_7 : decode cX2_penalties 7 = .ok (.ireturn, 1) := by decide +kernel
theorem dX2_stateOf_0 : decode cX2_stateOf 0 = .ok (.aload_n 0, 1) := by decide +kernel
theorem dX2_stateOf_1 : decode cX2_stateOf 1 = .ok (.iload_n 1, 1) := by decide +kernel
theorem dX2_stateOf_2 : decode cX2_stateOf 2 = .ok (.invokevirtual 51, 3) := by decide +kernel
theorem dX2_stateOf_5 : decode cX2_stateOf 5 = .ok (.aload_n 0, 1) := by decide +kernel
theorem dX2_stateOf_6 : decode cX2_stateOf 6 = .ok (.getfield 21, 3) := by decide +kernel
theorem dX2_stateOf_9 : decode cX2_stateOf 9 = .ok (.getfield 89, 3) := by decide +kernel
theorem dX2_stateOf_12 : decode cX2_stateOf 12 = .ok (.iload_n 1, 1) := by decide +kernel
theorem dX2_stateOf_13 : decode cX2_stateOf 13 = .ok (.iaload, 1) := by decide +kernel
theorem dX2_stateOf_14 : decode cX2_stateOf 14 = .ok (.ireturn, 1) := by decide +kernel
theorem dX2_daysLeft_0 : decode cX2_daysLeft 0 = .ok (.aload_n 0, 1) := by decide +kernel
theorem dX2_daysLeft_1 : decode cX2_daysLeft 1 = .ok (.iload_n 1, 1) := by decide +kernel
theorem dX2_daysLeft_2 : decode cX2_daysLeft 2 = .ok (.invokevirtual 51, 3) := by decide +kernel
theorem dX2_daysLeft_5 : decode cX2_daysLeft 5 = .ok (.aload_n 0, 1) := by decide +kernel
theorem dX2_daysLeft_6 : decode cX2_daysLeft 6 = .ok (.getfield 21, 3) := by decide +kernel
theorem dX2_daysLeft_9 : decode cX2_daysLeft 9 = .ok (.getfield 118, 3) := by decide +kernel
theorem dX2_daysLeft_12 : decode cX2_daysLeft 12 = .ok (.iload_n 1, 1) := by decide +kernel
theorem dX2_daysLeft_13 : decode cX2_daysLeft 13 = .ok (.iaload, 1) := by decide +kernel
theorem dX2_daysLeft_14 : decode cX2_daysLeft 14 = .ok (.ireturn, 1) := by decide +kernel
theorem dX2_stoppedFor_0 : decode cX2_stoppedFor 0 = .ok (.aload_n 0, 1) := by decide +kernel
theorem dX2_stoppedFor_1 : decode cX2_stoppedFor 1 = .ok (.iload_n 1, 1) := by decide +kernel
theorem dX2_stoppedFor_2 : decode cX2_stoppedFor 2 = .ok (.invokevirtual 51, 3) := by decide +kernel
theorem dX2_stoppedFor_5 : decode cX2_stoppedFor 5 = .ok (.aload_n 0, 1) := by decide +kernel
theorem dX2_stoppedFor_6 : decode cX2_stoppedFor 6 = .ok (.getfield 21, 3) := by decide +kernel
theorem dX2_stoppedFor_9 : decode cX2_stoppedFor 9 = .ok (.getfield 106, 3) := by decide +kernel
theorem dX2_stoppedFor_12 : decode cX2_stoppedFor 12 = .ok (.iload_n 1, 1) := by decide +kernel
theorem dX2_stoppedFor_13 : decode cX2_stoppedFor 13 = .ok (.iaload, 1) := by decide +kernel
theorem dX2_stoppedFor_14 : decode cX2_stoppedFor 14 = .ok (.ireturn, 1) := by decide +kernel
theorem dX2_priceOf_0 : decode cX2_priceOf 0 = .ok (.aload_n 0, 1) := by decide +kernel
theorem dX2_priceOf_1 : decode cX2_priceOf 1 = .ok (.iload_n 1, 1) := by decide +kernel
theorem dX2_priceOf_2 : decode cX2_priceOf 2 = .ok (.invokevirtual 51, 3) := by decide +kernel
theorem dX2_priceOf_5 : decode cX2_priceOf 5 = .ok (.aload_n 0, 1) := by decide +kernel
theorem dX2_priceOf_6 : decode cX2_priceOf 6 = .ok (.getfield 21, 3) := by decide +kernel
theorem dX2_priceOf_9 : decode cX2_priceOf 9 = .ok (.iload_n 1, 1) := by decide +kernel
theorem dX2_priceOf_10 : decode cX2_priceOf 10 = .ok (.invokevirtual 82, 3) := by decide +kernel
theorem dX2_priceOf_13 : decode cX2_priceOf 13 = .ok (.ireturn, 1) := by decide +kernel
theorem dX2_hanging_0 : decode cX2_hanging 0 = .ok (.aload_n 0, 1) := by decide +kernel
theorem dX2_hanging_1 : decode cX2_hanging 1 = .ok (.iload_n 1, 1) := by decide +kernel
theorem dX2_hanging_2 : decode cX2_hanging 2 = .ok (.invokevirtual 51, 3) := by decide +kernel
theorem dX2_hanging_5 : decode cX2_hanging 5 = .ok (.iconst 0, 1) := by decide +kernel
theorem dX2_hanging_6 : decode cX2_hanging 6 = .ok (.istore_n 2, 1) := by decide +kernel
theorem dX2_hanging_7 : decode cX2_hanging 7 = .ok (.iload_n 1, 1) := by decide +kernel
theorem dX2_hanging_8 : decode cX2_hanging 8 = .ok (.iconst 1, 1) := by decide +kernel
theorem dX2_hanging_9 : decode cX2_hanging 9 = .ok (.iadd, 1) := by decide +kernel
theorem dX2_hanging_10 : decode cX2_hanging 10 = .ok (.istore_n 3, 1) := by decide +kernel
theorem dX2_hanging_11 : decode cX2_hanging 11 = .ok (.iload_n 3, 1) := by decide +kernel
theorem dX2_hanging_12 : decode cX2_hanging 12 = .ok (.aload_n 0, 1) := by decide +kernel
theorem dX2_hanging_13 : decode cX2_hanging 13 = .ok (.getfield 10, 3) := by decide +kernel
theorem dX2_hanging_16 : decode cX2_hanging 16 = .ok (.getfield 59, 3) := by decide +kernel
theorem dX2_hanging_19 : decode cX2_hanging 19 = .ok (.if_icmp .ge 24, 3) := by decide +kernel
theorem dX2_hanging_22 : decode cX2_hanging 22 = .ok (.aload_n 0, 1) := by decide +kernel
theorem dX2_hanging_23 : decode cX2_hanging 23 = .ok (.getfield 10, 3) := by decide +kernel
theorem dX2_hanging_26 : decode cX2_hanging 26 = .ok (.iload_n 3, 1) := by decide +kernel
theorem dX2_hanging_27 : decode cX2_hanging 27 = .ok (.iload_n 1, 1) := by decide +kernel
theorem dX2_hanging_28 : decode cX2_hanging 28 = .ok (.invokevirtual 121, 3) := by decide +kernel
theorem dX2_hanging_31 : decode cX2_hanging 31 = .ok (.ifCond .eq 6, 3) := by decide +kernel
theorem dX2_hanging_34 : decode cX2_hanging 34 = .ok (.iinc 2 1, 3) := by decide +kernel
theorem dX2_hanging_37 : decode cX2_hanging 37 = .ok (.iinc 3 1, 3) := by decide +kernel
theorem dX2_hanging_40 : decode cX2_hanging 40 = .ok (.goto (-29), 3) := by decide +kernel
theorem dX2_hanging_43 : decode cX2_hanging 43 = .ok (.iload_n 2, 1) := by decide +kernel
theorem dX2_hanging_44 : decode cX2_hanging 44 = .ok (.ireturn, 1) := by decide +kernel
theorem dX2_depthOf_0 : decode cX2_depthOf 0 = .ok (.aload_n 0, 1) := by decide +kernel
theorem dX2_depthOf_1 : decode cX2_depthOf 1 = .ok (.iload_n 1, 1) := by decide +kernel
theorem dX2_depthOf_2 : decode cX2_depthOf 2 = .ok (.invokevirtual 51, 3) := by decide +kernel
theorem dX2_depthOf_5 : decode cX2_depthOf 5 = .ok (.aload_n 0, 1) := by decide +kernel
theorem dX2_depthOf_6 : decode cX2_depthOf 6 = .ok (.getfield 10, 3) := by decide +kernel
theorem dX2_depthOf_9 : decode cX2_depthOf 9 = .ok (.getfield 125, 3) := by decide +kernel
theorem dX2_depthOf_12 : decode cX2_depthOf 12 = .ok (.iload_n 1, 1) := by decide +kernel
theorem dX2_depthOf_13 : decode cX2_depthOf 13 = .ok (.iaload, 1) := by decide +kernel
theorem dX2_depthOf_14 : decode cX2_depthOf 14 = .ok (.ireturn, 1) := by decide +kernel
theorem dX2_textLength_0 : decode cX2_textLength 0 = .ok (.aload_n 0, 1) := by decide +kernel
theorem dX2_textLength_1 : decode cX2_textLength 1 = .ok (.iload_n 1, 1) := by decide +kernel
theorem dX2_textLength_2 : decode cX2_textLength 2 = .ok (.invokevirtual 51, 3) := by decide +kernel
theorem dX2_textLength_5 : decode cX2_textLength 5 = .ok (.aload_n 0, 1) := by decide +kernel
theorem dX2_textLength_6 : decode cX2_textLength 6 = .ok (.getfield 10, 3) := by decide +kernel
theorem dX2_textLength_9 : decode cX2_textLength 9 = .ok (.getfield 128, 3) := by decide +kernel
theorem dX2_textLength_12 : decode cX2_textLength 12 = .ok (.iload_n 1, 1) := by decide +kernel
theorem dX2_textLength_13 : decode cX2_textLength 13 = .ok (.iaload, 1) := by decide +kernel
theorem dX2_textLength_14 : decode cX2_textLength 14 = .ok (.ireturn, 1) := by decide +kernel
theorem dX2_sealOf_0 : decode cX2_sealOf 0 = .ok (.aload_n 0, 1) := by decide +kernel
theorem dX2_sealOf_1 : decode cX2_sealOf 1 = .ok (.iload_n 1, 1) := by decide +kernel
theorem dX2_sealOf_2 : decode cX2_sealOf 2 = .ok (.invokevirtual 51, 3) := by decide +kernel
theorem dX2_sealOf_5 : decode cX2_sealOf 5 = .ok (.aload_n 0, 1) := by decide +kernel
theorem dX2_sealOf_6 : decode cX2_sealOf 6 = .ok (.getfield 10, 3) := by decide +kernel
theorem dX2_sealOf_9 : decode cX2_sealOf 9 = .ok (.getfield 131, 3) := by decide +kernel
theorem dX2_sealOf_12 : decode cX2_sealOf 12 = .ok (.iload_n 1, 1) := by decide +kernel
theorem dX2_sealOf_13 : decode cX2_sealOf 13 = .ok (.iaload, 1) := by decide +kernel
theorem dX2_sealOf_14 : decode cX2_sealOf 14 = .ok (.ireturn, 1) := by decide +kernel
theorem dX2_owes_0 : decode cX2_owes 0 = .ok (.aload_n 0, 1) := by decide +kernel
theorem dX2_owes_1 : decode cX2_owes 1 = .ok (.iload_n 1, 1) := by decide +kernel
theorem dX2_owes_2 : decode cX2_owes 2 = .ok (.invokevirtual 47, 3) := by decide +kernel
theorem dX2_owes_5 : decode cX2_owes 5 = .ok (.iconst 0, 1) := by decide +kernel
theorem dX2_owes_6 : decode cX2_owes 6 = .ok (.istore_n 2, 1) := by decide +kernel
theorem dX2_owes_7 : decode cX2_owes 7 = .ok (.iconst 0, 1) := by decide +kernel
theorem dX2_owes_8 : decode cX2_owes 8 = .ok (.istore_n 3, 1) := by decide +kernel
theorem dX2_owes_9 : decode cX2_owes 9 = .ok (.iload_n 3, 1) := by decide +kernel
theorem dX2_owes_10 : decode cX2_owes 10 = .ok (.aload_n 0, 1) := by decide +kernel
theorem dX2_owes_11 : decode cX2_owes 11 = .ok (.getfield 10, 3) := by decide +kernel
theorem dX2_owes_14 : decode cX2_owes 14 = .ok (.getfield 59, 3) := by decide +kernel
theorem dX2_owes_17 : decode cX2_owes 17 = .ok (.if_icmp .ge 33, 3) := by decide +kernel
theorem dX2_owes_20 : decode cX2_owes 20 = .ok (.aload_n 0, 1) := by decide +kernel
theorem dX2_owes_21 : decode cX2_owes 21 = .ok (.getfield 10, 3) := by decide +kernel
theorem dX2_owes_24 : decode cX2_owes 24 = .ok (.getfield 134, 3) := by decide +kernel
theorem dX2_owes_27 : decode cX2_owes 27 = .ok (.iload_n 3, 1) := by decide +kernel
theorem dX2_owes_28 : decode cX2_owes 28 = .ok (.iaload, 1) := by decide +kernel
theorem dX2_owes_29 : decode cX2_owes 29 = .ok (.iload_n 1, 1) := by decide +kernel
theorem dX2_owes_30 : decode cX2_owes 30 = .ok (.if_icmp .ne 14, 3) := by decide +kernel
theorem dX2_owes_33 : decode cX2_owes 33 = .ok (.iload_n 2, 1) := by decide +kernel
theorem dX2_owes_34 : decode cX2_owes 34 = .ok (.aload_n 0, 1) := by decide +kernel
theorem dX2_owes_35 : decode cX2_owes 35 = .ok (.getfield 21, 3) := by decide +kernel
theorem dX2_owes_38 : decode cX2_owes 38 = .ok (.iload_n 3, 1) := by decide +kernel
theorem dX2_owes_39 : decode cX2_owes 39 = .ok (.invokevirtual 82, 3) := by decide +kernel
theorem dX2_owes_42 : decode cX2_owes 42 = .ok (.iadd, 1) := by decide +kernel
theorem dX2_owes_43 : decode cX2_owes 43 = .ok (.istore_n 2, 1) := by decide +kernel
theorem dX2_owes_44 : decode cX2_owes 44 = .ok (.iinc 3 1, 3) := by decide +kernel
theorem dX2_owes_47 : decode cX2_owes 47 = .ok (.goto (-38), 3) := by decide +kernel
theorem dX2_owes_50 : decode cX2_owes 50 = .ok (.iload_n 2, 1) := by decide +kernel
theorem dX2_owes_51 : decode cX2_owes 51 = .ok (.ireturn, 1) := by decide +kernel
theorem dX2_balance_0 : decode cX2_balance 0 = .ok (.aload_n 0, 1) := by decide +kernel
theorem dX2_balance_1 : decode cX2_balance 1 = .ok (.iload_n 1, 1) := by decide +kernel
theorem dX2_balance_2 : decode cX2_balance 2 = .ok (.invokevirtual 47, 3) := by decide +kernel
theorem dX2_balance_5 : decode cX2_balance 5 = .ok (.aload_n 0, 1) := by decide +kernel
theorem dX2_balance_6 : decode cX2_balance 6 = .ok (.iload_n 2, 1) := by decide +kernel
theorem dX2_balance_7 : decode cX2_balance 7 = .ok (.invokevirtual 47, 3) := by decide +kernel
theorem dX2_balance_10 : decode cX2_balance 10 = .ok (.aload_n 0, 1) := by decide +kernel
theorem dX2_balance_11 : decode cX2_balance 11 = .ok (.iload_n 2, 1) := by decide +kernel
theorem dX2_balance_12 : decode cX2_balance 12 = .ok (.iload_n 1, 1) := by decide +kernel
theorem dX2_balance_13 : decode cX2_balance 13 = .ok (.invokevirtual 137, 3) := by decide +kernel
theorem dX2_balance_16 : decode cX2_balance 16 = .ok (.aload_n 0, 1) := by decide +kernel
theorem dX2_balance_17 : decode cX2_balance 17 = .ok (.iload_n 1, 1) := by decide +kernel
theorem dX2_balance_18 : decode cX2_balance 18 = .ok (.iload_n 2, 1) := by decide +kernel
theorem dX2_balance_19 : decode cX2_balance 19 = .ok (.invokevirtual 137, 3) := by decide +kernel
theorem dX2_balance_22 : decode cX2_balance 22 = .ok (.isub, 1) := by decide +kernel
theorem dX2_balance_23 : decode cX2_balance 23 = .ok (.ireturn, 1) := by decide +kernel
theorem dX2_weakest_0 : decode cX2_weakest 0 = .ok (.iconst (-1), 1) := by decide +kernel
theorem dX2_weakest_1 : decode cX2_weakest 1 = .ok (.istore_n 1, 1) := by decide +kernel
theorem dX2_weakest_2 : decode cX2_weakest 2 = .ok (.iconst 0, 1) := by decide +kernel
theorem dX2_weakest_3 : decode cX2_weakest 3 = .ok (.istore_n 2, 1) := by decide +kernel
theorem dX2_weakest_4 : decode cX2_weakest 4 = .ok (.iconst 0, 1) := by decide +kernel
theorem dX2_weakest_5 : decode cX2_weakest 5 = .ok (.istore_n 3, 1) := by decide +kernel
theorem dX2_weakest_6 : decode cX2_weakest 6 = .ok (.iload_n 3, 1) := by decide +kernel
theorem dX2_weakest_7 : decode cX2_weakest 7 = .ok (.aload_n 0, 1) := by decide +kernel
theorem dX2_weakest_8 : decode cX2_weakest 8 = .ok (.getfield 32, 3) := by decide +kernel
theorem dX2_weakest_11 : decode cX2_weakest 11 = .ok (.if_icmp .ge 37, 3) := by decide +kernel
theorem dX2_weakest_14 : decode cX2_weakest 14 = .ok (.aload_n 0, 1) := by decide +kernel
theorem dX2_weakest_15 : decode cX2_weakest 15 = .ok (.iload_n 3, 1) := by decide +kernel
theorem dX2_weakest_16 : decode cX2_weakest 16 = .ok (.invokevirtual 141, 3) := by decide +kernel
theorem dX2_weakest_19 : decode cX2_weakest 19 = .ok (.aload_n 0, 1) := by decide +kernel
theorem dX2_weakest_20 : decode cX2_weakest 20 = .ok (.getfield 21, 3) := by decide +kernel
theorem dX2_weakest_23 : decode cX2_weakest 23 = .ok (.getfield 43, 3) := by decide +kernel
theorem dX2_weakest_26 : decode cX2_weakest 26 = .ok (.iload_n 3, 1) := by decide +kernel
theorem dX2_weakest_27 : decode cX2_weakest 27 = .ok (.iaload, 1) := by decide +kernel
theorem dX2_weakest_28 : decode cX2_weakest 28 = .ok (.isub, 1) := by decide +kernel
theorem dX2_weakest_29 : decode cX2_weakest 29 = .ok (.istore 4, 2) := by decide +kernel
theorem dX2_weakest_31 : decode cX2_weakest 31 = .ok (.iload 4, 2) := by decide +kernel
theorem dX2_weakest_33 : decode cX2_weakest 33 = .ok (.iload_n 2, 1) := by decide +kernel
theorem dX2_weakest_34 : decode cX2_weakest 34 = .ok (.if_icmp .le 8, 3) := by decide +kernel
theorem dX2_weakest_37 : decode cX2_weakest 37 = .ok (.iload 4, 2) := by decide +kernel
theorem dX2_weakest_39 : decode cX2_weakest 39 = .ok (.istore_n 2, 1) := by decide +kernel
theorem dX2_weakest_40 : decode cX2_weakest 40 = .ok (.iload_n 3, 1) := by decide +kernel
theorem dX2_weakest_41 : decode cX2_weakest 41 = .ok (.istore_n 1, 1) := by decide +kernel
theorem dX2_weakest_42 : decode cX2_weakest 42 = .ok (.iinc 3 1, 3) := by decide +kernel
theorem dX2_weakest_45 : decode cX2_weakest 45 = .ok (.goto (-39), 3) := by decide +kernel
theorem dX2_weakest_48 : decode cX2_weakest 48 = .ok (.iload_n 1, 1) := by decide +kernel
theorem dX2_weakest_49 : decode cX2_weakest 49 = .ok (.ireturn, 1) := by decide +kernel
theorem dX2_daysUntilFailed_0 : decode cX2_daysUntilFailed 0 = .ok (.aload_n 0, 1) := by decide +kernel
theorem dX2_daysUntilFailed_1 : decode cX2_daysUntilFailed 1 = .ok (.iload_n 1, 1) := by decide +kernel
theorem dX2_daysUntilFailed_2 : decode cX2_daysUntilFailed 2 = .ok (.invokevirtual 51, 3) := by decide +kernel
theorem dX2_daysUntilFailed_5 : decode cX2_daysUntilFailed 5 = .ok (.aload_n 0, 1) := by decide +kernel
theorem dX2_daysUntilFailed_6 : decode cX2_daysUntilFailed 6 = .ok (.getfield 21, 3) := by decide +kernel
theorem dX2_daysUntilFailed_9 : decode cX2_daysUntilFailed 9 = .ok (.iload_n 1, 1) := by decide +kernel
theorem dX2_daysUntilFailed_10 : decode cX2_daysUntilFailed 10 = .ok (.invokevirtual 92, 3) := by decide +kernel
theorem dX2_daysUntilFailed_13 : decode cX2_daysUntilFailed 13 = .ok (.ifCond .ne 5, 3) := by decide +kernel
theorem dX2_daysUntilFailed_16 : decode cX2_daysUntilFailed 16 = .ok (.iconst (-1), 1) := by decide +kernel
theorem dX2_daysUntilFailed_17 : decode cX2_daysUntilFailed 17 = .ok (.ireturn, 1) := by decide +kernel
theorem dX2_daysUntilFailed_18 : decode cX2_daysUntilFailed 18 = .ok (.aload_n 0, 1) := by decide +kernel
theorem dX2_daysUntilFailed_19 : decode cX2_daysUntilFailed 19 = .ok (.getfield 21, 3) := by decide +kernel
theorem dX2_daysUntilFailed_22 : decode cX2_daysUntilFailed 22 = .ok (.getfield 106, 3) := by decide +kernel
theorem dX2_daysUntilFailed_25 : decode cX2_daysUntilFailed 25 = .ok (.iload_n 1, 1) := by decide +kernel
theorem dX2_daysUntilFailed_26 : decode cX2_daysUntilFailed 26 = .ok (.iaload, 1) := by decide +kernel
theorem dX2_daysUntilFailed_27 : decode cX2_daysUntilFailed 27 = .ok (.aload_n 0, 1) := by decide +kernel
theorem dX2_daysUntilFailed_28 : decode cX2_daysUntilFailed 28 = .ok (.getfield 21, 3) := by decide +kernel
theorem dX2_daysUntilFailed_31 : decode cX2_daysUntilFailed 31 = .ok (.getfield 118, 3) := by decide +kernel
theorem dX2_daysUntilFailed_34 : decode cX2_daysUntilFailed 34 = .ok (.iload_n 1, 1) := by decide +kernel
theorem dX2_daysUntilFailed_35 : decode cX2_daysUntilFailed 35 = .ok (.iaload, 1) := by decide +kernel
theorem dX2_daysUntilFailed_36 : decode cX2_daysUntilFailed 36 = .ok (.iadd, 1) := by decide +kernel
theorem dX2_daysUntilFailed_37 : decode cX2_daysUntilFailed 37 = .ok (.istore_n 2, 1) := by decide +kernel
theorem dX2_daysUntilFailed_38 : decode cX2_daysUntilFailed 38 = .ok (.aload_n 0, 1) := by decide +kernel
theorem dX2_daysUntilFailed_39 : decode cX2_daysUntilFailed 39 = .ok (.getfield 21, 3) := by decide +kernel
theorem dX2_daysUntilFailed_42 : decode cX2_daysUntilFailed 42 = .ok (.getfield 89, 3) := by decide +kernel
theorem dX2_daysUntilFailed_45 : decode cX2_daysUntilFailed 45 = .ok (.iload_n 1, 1) := by decide +kernel
theorem dX2_daysUntilFailed_46 : decode cX2_daysUntilFailed 46 = .ok (.iaload, 1) := by decide +kernel
theorem dX2_daysUntilFailed_47 : decode cX2_daysUntilFailed 47 = .ok (.iconst 1, 1) := by decide +kernel
theorem dX2_daysUntilFailed_48 : decode cX2_daysUntilFailed 48 = .ok (.if_icmp .ne 17, 3) := by decide +kernel
theorem dX2_daysUntilFailed_51 : decode cX2_daysUntilFailed 51 = .ok (.iload_n 2, 1) := by decide +kernel
theorem dX2_daysUntilFailed_52 : decode cX2_daysUntilFailed 52 = .ok (.aload_n 0, 1) := by decide +kernel
theorem dX2_daysUntilFailed_53 : decode cX2_daysUntilFailed 53 = .ok (.getfield 10, 3) := by decide +kernel
theorem dX2_daysUntilFailed_56 : decode cX2_daysUntilFailed 56 = .ok (.getfield 144, 3) := by decide +kernel
theorem dX2_daysUntilFailed_59 : decode cX2_daysUntilFailed 59 = .ok (.iload_n 1, 1) := by decide +kernel
theorem dX2_daysUntilFailed_60 : decode cX2_daysUntilFailed 60 = .ok (.iaload, 1) := by decide +kernel
theorem dX2_daysUntilFailed_61 : decode cX2_daysUntilFailed 61 = .ok (.iadd, 1) := by decide +kernel
theorem dX2_daysUntilFailed_62 : decode cX2_daysUntilFailed 62 = .ok (.goto 4, 3) := by decide +kernel
theorem dX2_daysUntilFailed_65 : decode cX2_daysUntilFailed 65 = .ok (.iload_n 2, 1) := by decide +kernel
theorem dX2_daysUntilFailed_66 : decode cX2_daysUntilFailed 66 = .ok (.ireturn, 1) := by decide +kernel
theorem dX2_purseIn_0 : decode cX2_purseIn 0 = .ok (.aload_n 0, 1) := by decide +kernel
theorem dX2_purseIn_1 : decode cX2_purseIn 1 = .ok (.iload_n 1, 1) := by decide +kernel
theorem dX2_purseIn_2 : decode cX2_purseIn 2 = .ok (.invokevirtual 47, 3) := by decide +kernel
theorem dX2_purseIn_5 : decode cX2_purseIn 5 = .ok (.iload_n 2, 1) := by decide +kernel
theorem dX2_purseIn_6 : decode cX2_purseIn 6 = .ok (.iconst 1, 1) := by decide +kernel
theorem dX2_purseIn_7 : decode cX2_purseIn 7 = .ok (.bipush 60, 2) := by decide +kernel
theorem dX2_purseIn_9 : decode cX2_purseIn 9 = .ok (.invokestatic 28, 3) := by decide +kernel
theorem dX2_purseIn_12 : decode cX2_purseIn 12 = .ok (.aload_n 0, 1) := by decide +kernel
theorem dX2_purseIn_13 : decode cX2_purseIn 13 = .ok (.iload_n 1, 1) := by decide +kernel
theorem dX2_purseIn_14 : decode cX2_purseIn 14 = .ok (.iconst (-1), 1) := by decide +kernel
theorem dX2_purseIn_15 : decode cX2_purseIn 15 = .ok (.iload_n 2, 1) := by decide +kernel
theorem dX2_purseIn_16 : decode cX2_purseIn 16 = .ok (.invokevirtual 147, 3) := by decide +kernel
theorem dX2_purseIn_19 : decode cX2_purseIn 19 = .ok (.ireturn, 1) := by decide +kernel
theorem dX2_bestToPay_0 : decode cX2_bestToPay 0 = .ok (.aload_n 0, 1) := by decide +kernel
theorem dX2_bestToPay_1 : decode cX2_bestToPay 1 = .ok (.iload_n 1, 1) := by decide +kernel
theorem dX2_bestToPay_2 : decode cX2_bestToPay 2 = .ok (.invokevirtual 47, 3) := by decide +kernel
theorem dX2_bestToPay_5 : decode cX2_bestToPay 5 = .ok (.iconst (-1), 1) := by decide +kernel
theorem dX2_bestToPay_6 : decode cX2_bestToPay 6 = .ok (.istore_n 2, 1) := by decide +kernel
theorem dX2_bestToPay_7 : decode cX2_bestToPay 7 = .ok (.aload_n 0, 1) := by decide +kernel
theorem dX2_bestToPay_8 : decode cX2_bestToPay 8 = .ok (.iload_n 1, 1) := by decide +kernel
theorem dX2_bestToPay_9 : decode cX2_bestToPay 9 = .ok (.iconst (-1), 1) := by decide +kernel
theorem dX2_bestToPay_10 : decode cX2_bestToPay 10 = .ok (.bipush 60, 2) := by decide +kernel
theorem dX2_bestToPay_12 : decode cX2_bestToPay 12 = .ok (.invokevirtual 147, 3) := by decide +kernel
theorem dX2_bestToPay_15 : decode cX2_bestToPay 15 = .ok (.istore_n 3, 1) := by decide +kernel
theorem dX2_bestToPay_16 : decode cX2_bestToPay 16 = .ok (.iconst 0, 1) := by decide +kernel
theorem dX2_bestToPay_17 : decode cX2_bestToPay 17 = .ok (.istore 4, 2) := by decide +kernel
theorem dX2_bestToPay_19 : decode cX2_bestToPay 19 = .ok (.iload 4, 2) := by decide +kernel
theorem dX2_bestToPay_21 : decode cX2_bestToPay 21 = .ok (.aload_n 0, 1) := by decide +kernel
theorem dX2_bestToPay_22 : decode cX2_bestToPay 22 = .ok (.getfield 10, 3) := by decide +kernel
theorem dX2_bestToPay_25 : decode cX2_bestToPay 25 = .ok (.getfield 59, 3) := by decide +kernel
theorem dX2_bestToPay_28 : decode cX2_bestToPay 28 = .ok (.if_icmp .ge 58, 3) := by decide +kernel
theorem dX2_bestToPay_31 : decode cX2_bestToPay 31 = .ok (.aload_n 0, 1) := by decide +kernel
theorem dX2_bestToPay_32 : decode cX2_bestToPay 32 = .ok (.getfield 10, 3) := by decide +kernel
theorem dX2_bestToPay_35 : decode cX2_bestToPay 35 = .ok (.getfield 134, 3) := by decide +kernel
theorem dX2_bestToPay_38 : decode cX2_bestToPay 38 = .ok (.iload 4, 2) := by decide +kernel
theorem dX2_bestToPay_40 : decode cX2_bestToPay 40 = .ok (.iaload, 1) := by decide +kernel
theorem dX2_bestToPay_41 : decode cX2_bestToPay 41 = .ok (.iload_n 1, 1) := by decide +kernel
theorem dX2_bestToPay_42 : decode cX2_bestToPay 42 = .ok (.if_icmp .ne 38, 3) := by decide +kernel
theorem dX2_bestToPay_45 : decode cX2_bestToPay 45 = .ok (.aload_n 0, 1) := by decide +kernel
theorem dX2_bestToPay_46 : decode cX2_bestToPay 46 = .ok (.getfield 21, 3) := by decide +kernel
theorem dX2_bestToPay_49 : decode cX2_bestToPay 49 = .ok (.iload 4, 2) := by decide +kernel
theorem dX2_bestToPay_51 : decode cX2_bestToPay 51 = .ok (.invokevirtual 77, 3) := by decide +kernel
theorem dX2_bestToPay_54 : decode cX2_bestToPay 54 = .ok (.ifCond .eq 26, 3) := by decide +kernel
theorem dX2_bestToPay_57 : decode cX2_bestToPay 57 = .ok (.aload_n 0, 1) := by decide +kernel
theorem dX2_bestToPay_58 : decode cX2_bestToPay 58 = .ok (.iload_n 1, 1) := by decide +kernel
theorem dX2_bestToPay_59 : decode cX2_bestToPay 59 = .ok (.iload 4, 2) := by decide +kernel
theorem dX2_bestToPay_61 : decode cX2_bestToPay 61 = .ok (.bipush 60, 2) := by decide +kernel
theorem dX2_bestToPay_63 : decode cX2_bestToPay 63 = .ok (.invokevirtual 147, 3) := by decide +kernel
theorem dX2_bestToPay_66 : decode cX2_bestToPay 66 = .ok (.istore 5, 2) := by decide +kernel
theorem dX2_bestToPay_68 : decode cX2_bestToPay 68 = .ok (.iload 5, 2) := by decide +kernel
theorem dX2_bestToPay_70 : decode cX2_bestToPay 70 = .ok (.iload_n 3, 1) := by decide +kernel
theorem dX2_bestToPay_71 : decode cX2_bestToPay 71 = .ok (.if_icmp .le 9, 3) := by decide +kernel
theorem dX2_bestToPay_74 : decode cX2_bestToPay 74 = .ok (.iload 5, 2) := by decide +kernel
theorem dX2_bestToPay_76 : decode cX2_bestToPay 76 = .ok (.istore_n 3, 1) := by decide +kernel
theorem dX2_bestToPay_77 : decode cX2_bestToPay 77 = .ok (.iload 4, 2) := by decide +kernel
theorem dX2_bestToPay_79 : decode cX2_bestToPay 79 = .ok (.istore_n 2, 1) := by decide +kernel
theorem dX2_bestToPay_80 : decode cX2_bestToPay 80 = .ok (.iinc 4 1, 3) := by decide +kernel
theorem dX2_bestToPay_83 : decode cX2_bestToPay 83 = .ok (.goto (-64), 3) := by decide +kernel
theorem dX2_bestToPay_86 : decode cX2_bestToPay 86 = .ok (.iload_n 2, 1) := by decide +kernel
theorem dX2_bestToPay_87 : decode cX2_bestToPay 87 = .ok (.ireturn, 1) := by decide +kernel
theorem dX2_meanPurse_0 : decode cX2_meanPurse 0 = .ok (.aload_n 0, 1) := by decide +kernel
theorem dX2_meanPurse_1 : decode cX2_meanPurse 1 = .ok (.getfield 32, 3) := by decide +kernel
theorem dX2_meanPurse_4 : decode cX2_meanPurse 4 = .ok (.ifCond .ne 5, 3) := by decide +kernel
theorem dX2_meanPurse_7 : decode cX2_meanPurse 7 = .ok (.dconst 0, 1) := by decide +kernel
theorem dX2_meanPurse_8 : decode cX2_meanPurse 8 = .ok (.dreturn, 1) := by decide +kernel
theorem dX2_meanPurse_9 : decode cX2_meanPurse 9 = .ok (.iconst 0, 1) := by decide +kernel
theorem dX2_meanPurse_10 : decode cX2_meanPurse 10 = .ok (.istore_n 1, 1) := by decide +kernel
theorem dX2_meanPurse_11 : decode cX2_meanPurse 11 = .ok (.iconst 0, 1) := by decide +kernel
theorem dX2_meanPurse_12 : decode cX2_meanPurse 12 = .ok (.istore_n 2, 1) := by decide +kernel
theorem dX2_meanPurse_13 : decode cX2_meanPurse 13 = .ok (.iload_n 2, 1) := by decide +kernel
theorem dX2_meanPurse_14 : decode cX2_meanPurse 14 = .ok (.aload_n 0, 1) := by decide +kernel
theorem dX2_meanPurse_15 : decode cX2_meanPurse 15 = .ok (.getfield 32, 3) := by decide +kernel
theorem dX2_meanPurse_18 : decode cX2_meanPurse 18 = .ok (.if_icmp .ge 21, 3) := by decide +kernel
theorem dX2_meanPurse_21 : decode cX2_meanPurse 21 = .ok (.iload_n 1, 1) := by decide +kernel
theorem dX2_meanPurse_22 : decode cX2_meanPurse 22 = .ok (.aload_n 0, 1) := by decide +kernel
theorem dX2_meanPurse_23 : decode cX2_meanPurse 23 = .ok (.getfield 21, 3) := by decide +kernel
theorem dX2_meanPurse_26 : decode cX2_meanPurse 26 = .ok (.getfield 43, 3) := by decide +kernel
theorem dX2_meanPurse_29 : decode cX2_meanPurse 29 = .ok (.iload_n 2, 1) := by decide +kernel
theorem dX2_meanPurse_30 : decode cX2_meanPurse 30 = .ok (.iaload, 1) := by decide +kernel
theorem dX2_meanPurse_31 : decode cX2_meanPurse 31 = .ok (.iadd, 1) := by decide +kernel
theorem dX2_meanPurse_32 : decode cX2_meanPurse 32 = .ok (.istore_n 1, 1) := by decide +kernel
theorem dX2_meanPurse_33 : decode cX2_meanPurse 33 = .ok (.iinc 2 1, 3) := by decide +kernel
theorem dX2_meanPurse_36 : decode cX2_meanPurse 36 = .ok (.goto (-23), 3) := by decide +kernel
theorem dX2_meanPurse_39 : decode cX2_meanPurse 39 = .ok (.iload_n 1, 1) := by decide +kernel
theorem dX2_meanPurse_40 : decode cX2_meanPurse 40 = .ok (.i2d, 1) := by decide +kernel
theorem dX2_meanPurse_41 : decode cX2_meanPurse 41 = .ok (.aload_n 0, 1) := by decide +kernel
theorem dX2_meanPurse_42 : decode cX2_meanPurse 42 = .ok (.getfield 32, 3) := by decide +kernel
theorem dX2_meanPurse_45 : decode cX2_meanPurse 45 = .ok (.i2d, 1) := by decide +kernel
theorem dX2_meanPurse_46 : decode cX2_meanPurse 46 = .ok (.ddiv, 1) := by decide +kernel
theorem dX2_meanPurse_47 : decode cX2_meanPurse 47 = .ok (.dreturn, 1) := by decide +kernel
theorem dX2_digest_0 : decode cX2_digest 0 = .ok (.ldc2_w 151, 3) := by decide +kernel
theorem dX2_digest_3 : decode cX2_digest 3 = .ok (.lstore_n 1, 1) := by decide +kernel
theorem dX2_digest_4 : decode cX2_digest 4 = .ok (.lload_n 1, 1) := by decide +kernel
theorem dX2_digest_5 : decode cX2_digest 5 = .ok (.ldc2_w 153, 3) := by decide +kernel
theorem dX2_digest_8 : decode cX2_digest 8 = .ok (.lmul, 1) := by decide +kernel
theorem dX2_digest_9 : decode cX2_digest 9 = .ok (.aload_n 0, 1) := by decide +kernel
theorem dX2_digest_10 : decode cX2_digest 10 = .ok (.invokevirtual 155, 3) := by decide +kernel
theorem dX2_digest_13 : decode cX2_digest 13 = .ok (.i2l, 1) := by decide +kernel
theorem dX2_digest_14 : decode cX2_digest 14 = .ok (.ladd, 1) := by decide +kernel
theorem dX2_digest_15 : decode cX2_digest 15 = .ok (.lstore_n 1, 1) := by decide +kernel
theorem dX2_digest_16 : decode cX2_digest 16 = .ok (.lload_n 1, 1) := by decide +kernel
theorem dX2_digest_17 : decode cX2_digest 17 = .ok (.ldc2_w 153, 3) := by decide +kernel
theorem dX2_digest_20 : decode cX2_digest 20 = .ok (.lmul, 1) := by decide +kernel
theorem dX2_digest_21 : decode cX2_digest 21 = .ok (.aload_n 0, 1) := by decide +kernel
theorem dX2_digest_22 : decode cX2_digest 22 = .ok (.invokevirtual 159, 3) := by decide +kernel
theorem dX2_digest_25 : decode cX2_digest 25 = .ok (.i2l, 1) := by decide +kernel
theorem dX2_digest_26 : decode cX2_digest 26 = .ok (.ladd, 1) := by decide +kernel
theorem dX2_digest_27 : decode cX2_digest 27 = .ok (.lstore_n 1, 1) := by decide +kernel
theorem dX2_digest_28 : decode cX2_digest 28 = .ok (.lload_n 1, 1) := by decide +kernel
theorem dX2_digest_29 : decode cX2_digest 29 = .ok (.ldc2_w 153, 3) := by decide +kernel
theorem dX2_digest_32 : decode cX2_digest 32 = .ok (.lmul, 1) := by decide +kernel
theorem dX2_digest_33 : decode cX2_digest 33 = .ok (.aload_n 0, 1) := by decide +kernel
theorem dX2_digest_34 : decode cX2_digest 34 = .ok (.invokevirtual 162, 3) := by decide +kernel
theorem dX2_digest_37 : decode cX2_digest 37 = .ok (.i2l, 1) := by decide +kernel
theorem dX2_digest_38 : decode cX2_digest 38 = .ok (.ladd, 1) := by decide +kernel
theorem dX2_digest_39 : decode cX2_digest 39 = .ok (.lstore_n 1, 1) := by decide +kernel
theorem dX2_digest_40 : decode cX2_digest 40 = .ok (.iconst 0, 1) := by decide +kernel
theorem dX2_digest_41 : decode cX2_digest 41 = .ok (.istore_n 3, 1) := by decide +kernel
theorem dX2_digest_42 : decode cX2_digest 42 = .ok (.iload_n 3, 1) := by decide +kernel
theorem dX2_digest_43 : decode cX2_digest 43 = .ok (.iconst 5, 1) := by decide +kernel
theorem dX2_digest_44 : decode cX2_digest 44 = .ok (.if_icmp .gt 22, 3) := by decide +kernel
theorem dX2_digest_47 : decode cX2_digest 47 = .ok (.lload_n 1, 1) := by decide +kernel
theorem dX2_digest_48 : decode cX2_digest 48 = .ok (.ldc2_w 153, 3) := by decide +kernel
theorem dX2_digest_51 : decode cX2_digest 51 = .ok (.lmul, 1) := by decide +kernel
theorem dX2_digest_52 : decode cX2_digest 52 = .ok (.aload_n 0, 1) := by decide +kernel
theorem dX2_digest_53 : decode cX2_digest 53 = .ok (.iload_n 3, 1) := by decide +kernel
theorem dX2_digest_54 : decode cX2_digest 54 = .ok (.invokevirtual 165, 3) := by decide +kernel
theorem dX2_digest_57 : decode cX2_digest 57 = .ok (.i2l, 1) := by decide +kernel
theorem dX2_digest_58 : decode cX2_digest 58 = .ok (.ladd, 1) := by decide +kernel
theorem dX2_digest_59 : decode cX2_digest 59 = .ok (.lstore_n 1, 1) := by decide +kernel
theorem dX2_digest_60 : decode cX2_digest 60 = .ok (.iinc 3 1, 3) := by decide +kernel
theorem dX2_digest_63 : decode cX2_digest 63 = .ok (.goto (-21), 3) := by decide +kernel
theorem dX2_digest_66 : decode cX2_digest 66 = .ok (.lload_n 1, 1) := by decide +kernel
theorem dX2_digest_67 : decode cX2_digest 67 = .ok (.ldc2_w 153, 3) := by decide +kernel
theorem dX2_digest_70 : decode cX2_digest 70 = .ok (.lmul, 1) := by decide +kernel
theorem dX2_digest_71 : decode cX2_digest 71 = .ok (.aload_n 0, 1) := by decide +kernel
theorem dX2_digest_72 : decode cX2_digest 72 = .ok (.invokevirtual 168, 3) := by decide +kernel
theorem dX2_digest_75 : decode cX2_digest 75 = .ok (.i2l, 1) := by decide +kernel
theorem dX2_digest_76 : decode cX2_digest 76 = .ok (.ladd, 1) := by decide +kernel
theorem dX2_digest_77 : decode cX2_digest 77 = .ok (.lstore_n 1, 1) := by decide +kernel
theorem dX2_digest_78 : decode cX2_digest 78 = .ok (.lload_n 1, 1) := by decide +kernel
theorem dX2_digest_79 : decode cX2_digest 79 = .ok (.ldc2_w 153, 3) := by decide +kernel
theorem dX2_digest_82 : decode cX2_digest 82 = .ok (.lmul, 1) := by decide +kernel
theorem dX2_digest_83 : decode cX2_digest 83 = .ok (.aload_n 0, 1) := by decide +kernel
theorem dX2_digest_84 : decode cX2_digest 84 = .ok (.invokevirtual 171, 3) := by decide +kernel
theorem dX2_digest_87 : decode cX2_digest 87 = .ok (.i2l, 1) := by decide +kernel
theorem dX2_digest_88 : decode cX2_digest 88 = .ok (.ladd, 1) := by decide +kernel
theorem dX2_digest_89 : decode cX2_digest 89 = .ok (.lstore_n 1, 1) := by decide +kernel
theorem dX2_digest_90 : decode cX2_digest 90 = .ok (.iconst 0, 1) := by decide +kernel
theorem dX2_digest_91 : decode cX2_digest 91 = .ok (.istore_n 3, 1) := by decide +kernel
theorem dX2_digest_92 : decode cX2_digest 92 = .ok (.iload_n 3, 1) := by decide +kernel
theorem dX2_digest_93 : decode cX2_digest 93 = .ok (.aload_n 0, 1) := by decide +kernel
theorem dX2_digest_94 : decode cX2_digest 94 = .ok (.getfield 32, 3) := by decide +kernel
theorem dX2_digest_97 : decode cX2_digest 97 = .ok (.if_icmp .ge 96, 3) := by decide +kernel
theorem dX2_digest_100 : decode cX2_digest 100 = .ok (.lload_n 1, 1) := by decide +kernel
theorem dX2_digest_101 : decode cX2_digest 101 = .ok (.ldc2_w 153, 3) := by decide +kernel
theorem dX2_digest_104 : decode cX2_digest 104 = .ok (.lmul, 1) := by decide +kernel
theorem dX2_digest_105 : decode cX2_digest 105 = .ok (.aload_n 0, 1) := by decide +kernel
theorem dX2_digest_106 : decode cX2_digest 106 = .ok (.iload_n 3, 1) := by decide +kernel
theorem dX2_digest_107 : decode cX2_digest 107 = .ok (.invokevirtual 174, 3) := by decide +kernel
theorem dX2_digest_110 : decode cX2_digest 110 = .ok (.i2l, 1) := by decide +kernel
theorem dX2_digest_111 : decode cX2_digest 111 = .ok (.ladd, 1) := by decide +kernel
theorem dX2_digest_112 : decode cX2_digest 112 = .ok (.lstore_n 1, 1) := by decide +kernel
theorem dX2_digest_113 : decode cX2_digest 113 = .ok (.lload_n 1, 1) := by decide +kernel
theorem dX2_digest_114 : decode cX2_digest 114 = .ok (.ldc2_w 153, 3) := by decide +kernel
theorem dX2_digest_117 : decode cX2_digest 117 = .ok (.lmul, 1) := by decide +kernel
theorem dX2_digest_118 : decode cX2_digest 118 = .ok (.aload_n 0, 1) := by decide +kernel
theorem dX2_digest_119 : decode cX2_digest 119 = .ok (.iload_n 3, 1) := by decide +kernel
theorem dX2_digest_120 : decode cX2_digest 120 = .ok (.invokevirtual 141, 3) := by decide +kernel
theorem dX2_digest_123 : decode cX2_digest 123 = .ok (.i2l, 1) := by decide +kernel
theorem dX2_digest_124 : decode cX2_digest 124 = .ok (.ladd, 1) := by decide +kernel
theorem dX2_digest_125 : decode cX2_digest 125 = .ok (.lstore_n 1, 1) := by decide +kernel
theorem dX2_digest_126 : decode cX2_digest 126 = .ok (.iconst 0, 1) := by decide +kernel
theorem dX2_digest_127 : decode cX2_digest 127 = .ok (.istore 4, 2) := by decide +kernel
theorem dX2_digest_129 : decode cX2_digest 129 = .ok (.iload 4, 2) := by decide +kernel
theorem dX2_digest_131 : decode cX2_digest 131 = .ok (.aload_n 0, 1) := by decide +kernel
theorem dX2_digest_132 : decode cX2_digest 132 = .ok (.getfield 32, 3) := by decide +kernel
theorem dX2_digest_135 : decode cX2_digest 135 = .ok (.if_icmp .ge 24, 3) := by decide +kernel
theorem dX2_digest_138 : decode cX2_digest 138 = .ok (.lload_n 1, 1) := by decide +kernel
theorem dX2_digest_139 : decode cX2_digest 139 = .ok (.ldc2_w 153, 3) := by decide +kernel
theorem dX2_digest_142 : decode cX2_digest 142 = .ok (.lmul, 1) := by decide +kernel
theorem dX2_digest_143 : decode cX2_digest 143 = .ok (.aload_n 0, 1) := by decide +kernel
theorem dX2_digest_144 : decode cX2_digest 144 = .ok (.iload_n 3, 1) := by decide +kernel
theorem dX2_digest_145 : decode cX2_digest 145 = .ok (.iload 4, 2) := by decide +kernel
theorem dX2_digest_147 : decode cX2_digest 147 = .ok (.invokevirtual 177, 3) := by decide +kernel
theorem dX2_digest_150 : decode cX2_digest 150 = .ok (.i2l, 1) := by decide +kernel
theorem dX2_digest_151 : decode cX2_digest 151 = .ok (.ladd, 1) := by decide +kernel
theorem dX2_digest_152 : decode cX2_digest 152 = .ok (.lstore_n 1, 1) := by decide +kernel
theorem dX2_digest_153 : decode cX2_digest 153 = .ok (.iinc 4 1, 3) := by decide +kernel
theorem dX2_digest_156 : decode cX2_digest 156 = .ok (.goto (-27), 3) := by decide +kernel
theorem dX2_digest_159 : decode cX2_digest 159 = .ok (.lload_n 1, 1) := by decide +kernel
theorem dX2_digest_160 : decode cX2_digest 160 = .ok (.ldc2_w 153, 3) := by decide +kernel
theorem dX2_digest_163 : decode cX2_digest 163 = .ok (.lmul, 1) := by decide +kernel
theorem dX2_digest_164 : decode cX2_digest 164 = .ok (.aload_n 0, 1) := by decide +kernel
theorem dX2_digest_165 : decode cX2_digest 165 = .ok (.iload_n 3, 1) := by decide +kernel
theorem dX2_digest_166 : decode cX2_digest 166 = .ok (.bipush 30, 2) := by decide +kernel
theorem dX2_digest_168 : decode cX2_digest 168 = .ok (.invokevirtual 180, 3) := by decide +kernel
theorem dX2_digest_171 : decode cX2_digest 171 = .ok (.i2l, 1) := by decide +kernel
theorem dX2_digest_172 : decode cX2_digest 172 = .ok (.ladd, 1) := by decide +kernel
theorem dX2_digest_173 : decode cX2_digest 173 = .ok (.lstore_n 1, 1) := by decide +kernel
theorem dX2_digest_174 : decode cX2_digest 174 = .ok (.lload_n 1, 1) := by decide +kernel
theorem dX2_digest_175 : decode cX2_digest 175 = .ok (.ldc2_w 153, 3) := by decide +kernel
theorem dX2_digest_178 : decode cX2_digest 178 = .ok (.lmul, 1) := by decide +kernel
theorem dX2_digest_179 : decode cX2_digest 179 = .ok (.aload_n 0, 1) := by decide +kernel
theorem dX2_digest_180 : decode cX2_digest 180 = .ok (.iload_n 3, 1) := by decide +kernel
theorem dX2_digest_181 : decode cX2_digest 181 = .ok (.invokevirtual 183, 3) := by decide +kernel
theorem dX2_digest_184 : decode cX2_digest 184 = .ok (.i2l, 1) := by decide +kernel
theorem dX2_digest_185 : decode cX2_digest 185 = .ok (.ladd, 1) := by decide +kernel
theorem dX2_digest_186 : decode cX2_digest 186 = .ok (.lstore_n 1, 1) := by decide +kernel
theorem dX2_digest_187 : decode cX2_digest 187 = .ok (.iinc 3 1, 3) := by decide +kernel
theorem dX2_digest_190 : decode cX2_digest 190 = .ok (.goto (-98), 3) := by decide +kernel
theorem dX2_digest_193 : decode cX2_digest 193 = .ok (.iconst 0, 1) := by decide +kernel
theorem dX2_digest_194 : decode cX2_digest 194 = .ok (.istore_n 3, 1) := by decide +kernel
theorem dX2_digest_195 : decode cX2_digest 195 = .ok (.iload_n 3, 1) := by decide +kernel
theorem dX2_digest_196 : decode cX2_digest 196 = .ok (.aload_n 0, 1) := by decide +kernel
theorem dX2_digest_197 : decode cX2_digest 197 = .ok (.getfield 10, 3) := by decide +kernel
theorem dX2_digest_200 : decode cX2_digest 200 = .ok (.getfield 59, 3) := by decide +kernel
theorem dX2_digest_203 : decode cX2_digest 203 = .ok (.if_icmp .ge 113, 3) := by decide +kernel
theorem dX2_digest_206 : decode cX2_digest 206 = .ok (.lload_n 1, 1) := by decide +kernel
theorem dX2_digest_207 : decode cX2_digest 207 = .ok (.ldc2_w 153, 3) := by decide +kernel
theorem dX2_digest_210 : decode cX2_digest 210 = .ok (.lmul, 1) := by decide +kernel
theorem dX2_digest_211 : decode cX2_digest 211 = .ok (.aload_n 0, 1) := by decide +kernel
theorem dX2_digest_212 : decode cX2_digest 212 = .ok (.iload_n 3, 1) := by decide +kernel
theorem dX2_digest_213 : decode cX2_digest 213 = .ok (.invokevirtual 186, 3) := by decide +kernel
theorem dX2_digest_216 : decode cX2_digest 216 = .ok (.i2l, 1) := by decide +kernel
theorem dX2_digest_217 : decode cX2_digest 217 = .ok (.ladd, 1) := by decide +kernel
theorem dX2_digest_218 : decode cX2_digest 218 = .ok (.lstore_n 1, 1) := by decide +kernel
theorem dX2_digest_219 : decode cX2_digest 219 = .ok (.lload_n 1, 1) := by decide +kernel
theorem dX2_digest_220 : decode cX2_digest 220 = .ok (.ldc2_w 153, 3) := by decide +kernel
theorem dX2_digest_223 : decode cX2_digest 223 = .ok (.lmul, 1) := by decide +kernel
theorem dX2_digest_224 : decode cX2_digest 224 = .ok (.aload_n 0, 1) := by decide +kernel
theorem dX2_digest_225 : decode cX2_digest 225 = .ok (.iload_n 3, 1) := by decide +kernel
theorem dX2_digest_226 : decode cX2_digest 226 = .ok (.invokevirtual 189, 3) := by decide +kernel
theorem dX2_digest_229 : decode cX2_digest 229 = .ok (.i2l, 1) := by decide +kernel
theorem dX2_digest_230 : decode cX2_digest 230 = .ok (.ladd, 1) := by decide +kernel
theorem dX2_digest_231 : decode cX2_digest 231 = .ok (.lstore_n 1, 1) := by decide +kernel
theorem dX2_digest_232 : decode cX2_digest 232 = .ok (.lload_n 1, 1) := by decide +kernel
theorem dX2_digest_233 : decode cX2_digest 233 = .ok (.ldc2_w 153, 3) := by decide +kernel
theorem dX2_digest_236 : decode cX2_digest 236 = .ok (.lmul, 1) := by decide +kernel
theorem dX2_digest_237 : decode cX2_digest 237 = .ok (.aload_n 0, 1) := by decide +kernel
theorem dX2_digest_238 : decode cX2_digest 238 = .ok (.iload_n 3, 1) := by decide +kernel
theorem dX2_digest_239 : decode cX2_digest 239 = .ok (.invokevirtual 192, 3) := by decide +kernel
theorem dX2_digest_242 : decode cX2_digest 242 = .ok (.i2l, 1) := by decide +kernel
theorem dX2_digest_243 : decode cX2_digest 243 = .ok (.ladd, 1) := by decide +kernel
theorem dX2_digest_244 : decode cX2_digest 244 = .ok (.lstore_n 1, 1) := by decide +kernel
theorem dX2_digest_245 : decode cX2_digest 245 = .ok (.lload_n 1, 1) := by decide +kernel
theorem dX2_digest_246 : decode cX2_digest 246 = .ok (.ldc2_w 153, 3) := by decide +kernel
theorem dX2_digest_249 : decode cX2_digest 249 = .ok (.lmul, 1) := by decide +kernel
theorem dX2_digest_250 : decode cX2_digest 250 = .ok (.aload_n 0, 1) := by decide +kernel
theorem dX2_digest_251 : decode cX2_digest 251 = .ok (.iload_n 3, 1) := by decide +kernel
theorem dX2_digest_252 : decode cX2_digest 252 = .ok (.invokevirtual 195, 3) := by decide +kernel
theorem dX2_digest_255 : decode cX2_digest 255 = .ok (.i2l, 1) := by decide +kernel
theorem dX2_digest_256 : decode cX2_digest 256 = .ok (.ladd, 1) := by decide +kernel
theorem dX2_digest_257 : decode cX2_digest 257 = .ok (.lstore_n 1, 1) := by decide +kernel
theorem dX2_digest_258 : decode cX2_digest 258 = .ok (.lload_n 1, 1) := by decide +kernel
theorem dX2_digest_259 : decode cX2_digest 259 = .ok (.ldc2_w 153, 3) := by decide +kernel
theorem dX2_digest_262 : decode cX2_digest 262 = .ok (.lmul, 1) := by decide +kernel
theorem dX2_digest_263 : decode cX2_digest 263 = .ok (.aload_n 0, 1) := by decide +kernel
theorem dX2_digest_264 : decode cX2_digest 264 = .ok (.iload_n 3, 1) := by decide +kernel
theorem dX2_digest_265 : decode cX2_digest 265 = .ok (.invokevirtual 198, 3) := by decide +kernel
theorem dX2_digest_268 : decode cX2_digest 268 = .ok (.i2l, 1) := by decide +kernel
theorem dX2_digest_269 : decode cX2_digest 269 = .ok (.ladd, 1) := by decide +kernel
theorem dX2_digest_270 : decode cX2_digest 270 = .ok (.lstore_n 1, 1) := by decide +kernel
theorem dX2_digest_271 : decode cX2_digest 271 = .ok (.lload_n 1, 1) := by decide +kernel
theorem dX2_digest_272 : decode cX2_digest 272 = .ok (.ldc2_w 153, 3) := by decide +kernel
theorem dX2_digest_275 : decode cX2_digest 275 = .ok (.lmul, 1) := by decide +kernel
theorem dX2_digest_276 : decode cX2_digest 276 = .ok (.aload_n 0, 1) := by decide +kernel
theorem dX2_digest_277 : decode cX2_digest 277 = .ok (.iload_n 3, 1) := by decide +kernel
theorem dX2_digest_278 : decode cX2_digest 278 = .ok (.invokevirtual 201, 3) := by decide +kernel
theorem dX2_digest_281 : decode cX2_digest 281 = .ok (.i2l, 1) := by decide +kernel
theorem dX2_digest_282 : decode cX2_digest 282 = .ok (.ladd, 1) := by decide +kernel
theorem dX2_digest_283 : decode cX2_digest 283 = .ok (.lstore_n 1, 1) := by decide +kernel
theorem dX2_digest_284 : decode cX2_digest 284 = .ok (.lload_n 1, 1) := by decide +kernel
theorem dX2_digest_285 : decode cX2_digest 285 = .ok (.ldc2_w 153, 3) := by decide +kernel
theorem dX2_digest_288 : decode cX2_digest 288 = .ok (.lmul, 1) := by decide +kernel
theorem dX2_digest_289 : decode cX2_digest 289 = .ok (.aload_n 0, 1) := by decide +kernel
theorem dX2_digest_290 : decode cX2_digest 290 = .ok (.iload_n 3, 1) := by decide +kernel
theorem dX2_digest_291 : decode cX2_digest 291 = .ok (.invokevirtual 204, 3) := by decide +kernel
theorem dX2_digest_294 : decode cX2_digest 294 = .ok (.i2l, 1) := by decide +kernel
theorem dX2_digest_295 : decode cX2_digest 295 = .ok (.ladd, 1) := by decide +kernel
theorem dX2_digest_296 : decode cX2_digest 296 = .ok (.lstore_n 1, 1) := by decide +kernel
theorem dX2_digest_297 : decode cX2_digest 297 = .ok (.lload_n 1, 1) := by decide +kernel
theorem dX2_digest_298 : decode cX2_digest 298 = .ok (.ldc2_w 153, 3) := by decide +kernel
theorem dX2_digest_301 : decode cX2_digest 301 = .ok (.lmul, 1) := by decide +kernel
theorem dX2_digest_302 : decode cX2_digest 302 = .ok (.aload_n 0, 1) := by decide +kernel
theorem dX2_digest_303 : decode cX2_digest 303 = .ok (.iload_n 3, 1) := by decide +kernel
theorem dX2_digest_304 : decode cX2_digest 304 = .ok (.invokevirtual 207, 3) := by decide +kernel
theorem dX2_digest_307 : decode cX2_digest 307 = .ok (.i2l, 1) := by decide +kernel
theorem dX2_digest_308 : decode cX2_digest 308 = .ok (.ladd, 1) := by decide +kernel
theorem dX2_digest_309 : decode cX2_digest 309 = .ok (.lstore_n 1, 1) := by decide +kernel
theorem dX2_digest_310 : decode cX2_digest 310 = .ok (.iinc 3 1, 3) := by decide +kernel
theorem dX2_digest_313 : decode cX2_digest 313 = .ok (.goto (-118), 3) := by decide +kernel
theorem dX2_digest_316 : decode cX2_digest 316 = .ok (.lload_n 1, 1) := by decide +kernel
theorem dX2_digest_317 : decode cX2_digest 317 = .ok (.lreturn, 1) := by decide +kernel
theorem dX2_owedBetween_0 : decode cX2_owedBetween 0 = .ok (.iconst 0, 1) := by decide +kernel
theorem dX2_owedBetween_1 : decode cX2_owedBetween 1 = .ok (.istore_n 3, 1) := by decide +kernel
theorem dX2_owedBetween_2 : decode cX2_owedBetween 2 = .ok (.iconst 0, 1) := by decide +kernel
theorem dX2_owedBetween_3 : decode cX2_owedBetween 3 = .ok (.istore 4, 2) := by decide +kernel
theorem dX2_owedBetween_5 : decode cX2_owedBetween 5 = .ok (.iload 4, 2) := by decide +kernel
theorem dX2_owedBetween_7 : decode cX2_owedBetween 7 = .ok (.aload_n 0, 1) := by decide +kernel
theorem dX2_owedBetween_8 : decode cX2_owedBetween 8 = .ok (.getfield 10, 3) := by decide +kernel
theorem dX2_owedBetween_11 : decode cX2_owedBetween 11 = .ok (.getfield 59, 3) := by decide +kernel
theorem dX2_owedBetween_14 : decode cX2_owedBetween 14 = .ok (.if_icmp .ge 49, 3) := by decide +kernel
theorem dX2_owedBetween_17 : decode cX2_owedBetween 17 = .ok (.aload_n 0, 1) := by decide +kernel
theorem dX2_owedBetween_18 : decode cX2_owedBetween 18 = .ok (.getfield 10, 3) := by decide +kernel
theorem dX2_owedBetween_21 : decode cX2_owedBetween 21 = .ok (.getfield 134, 3) := by decide +kernel
theorem dX2_owedBetween_24 : decode cX2_owedBetween 24 = .ok (.iload 4, 2) := by decide +kernel
theorem dX2_owedBetween_26 : decode cX2_owedBetween 26 = .ok (.iaload, 1) := by decide +kernel
theorem dX2_owedBetween_27 : decode cX2_owedBetween 27 = .ok (.iload_n 1, 1) := by decide +kernel
theorem dX2_owedBetween_28 : decode cX2_owedBetween 28 = .ok (.if_icmp .ne 29, 3) := by decide +kernel
theorem dX2_owedBetween_31 : decode cX2_owedBetween 31 = .ok (.aload_n 0, 1) := by decide +kernel
theorem dX2_owedBetween_32 : decode cX2_owedBetween 32 = .ok (.getfield 10, 3) := by decide +kernel
theorem dX2_owedBetween_35 : decode cX2_owedBetween 35 = .ok (.getfield 210, 3) := by decide +kernel
theorem dX2_owedBetween_38 : decode cX2_owedBetween 38 = .ok (.iload 4, 2) := by decide +kernel
theorem dX2_owedBetween_40 : decode cX2_owedBetween 40 = .ok (.iaload, 1) := by decide +kernel
theorem dX2_owedBetween_41 : decode cX2_owedBetween 41 = .ok (.iload_n 2, 1) := by decide +kernel
theorem dX2_owedBetween_42 : decode cX2_owedBetween 42 = .ok (.if_icmp .ne 15, 3) := by decide +kernel
theorem dX2_owedBetween_45 : decode cX2_owedBetween 45 = .ok (.iload_n 3, 1) := by decide +kernel
theorem dX2_owedBetween_46 : decode cX2_owedBetween 46 = .ok (.aload_n 0, 1) := by decide +kernel
theorem dX2_owedBetween_47 : decode cX2_owedBetween 47 = .ok (.getfield 21, 3) := by decide +kernel
theorem dX2_owedBetween_50 : decode cX2_owedBetween 50 = .ok (.iload 4, 2) := by decide +kernel
theorem dX2_owedBetween_52 : decode cX2_owedBetween 52 = .ok (.invokevirtual 82, 3) := by decide +kernel
theorem dX2_owedBetween_55 : decode cX2_owedBetween 55 = .ok (.iadd, 1) := by decide +kernel
theorem dX2_owedBetween_56 : decode cX2_owedBetween 56 = .ok (.istore_n 3, 1) := by decide +kernel
theorem dX2_owedBetween_57 : decode cX2_owedBetween 57 = .ok (.iinc 4 1, 3) := by decide +kernel
theorem dX2_owedBetween_60 : decode cX2_owedBetween 60 = .ok (.goto (-55), 3) := by decide +kernel
theorem dX2_owedBetween_63 : decode cX2_owedBetween 63 = .ok (.iload_n 3, 1) := by decide +kernel
theorem dX2_owedBetween_64 : decode cX2_owedBetween 64 = .ok (.ireturn, 1) := by decide +kernel
theorem dX2_coinsAhead_0 : decode cX2_coinsAhead 0 = .ok (.aload_n 0, 1) := by decide +kernel
theorem dX2_coinsAhead_1 : decode cX2_coinsAhead 1 = .ok (.getfield 25, 3) := by decide +kernel
theorem dX2_coinsAhead_4 : decode cX2_coinsAhead 4 = .ok (.aload_n 0, 1) := by decide +kernel
theorem dX2_coinsAhead_5 : decode cX2_coinsAhead 5 = .ok (.getfield 21, 3) := by decide +kernel
theorem dX2_coinsAhead_8 : decode cX2_coinsAhead 8 = .ok (.invokevirtual 213, 3) := by decide +kernel
theorem dX2_coinsAhead_11 : decode cX2_coinsAhead 11 = .ok (.iload_n 2, 1) := by decide +kernel
theorem dX2_coinsAhead_12 : decode cX2_coinsAhead 12 = .ok (.iconst (-1), 1) := by decide +kernel
theorem dX2_coinsAhead_13 : decode cX2_coinsAhead 13 = .ok (.if_icmp .eq 11, 3) := by decide +kernel
theorem dX2_coinsAhead_16 : decode cX2_coinsAhead 16 = .ok (.aload_n 0, 1) := by decide +kernel
theorem dX2_coinsAhead_17 : decode cX2_coinsAhead 17 = .ok (.getfield 25, 3) := by decide +kernel
theorem dX2_coinsAhead_20 : decode cX2_coinsAhead 20 = .ok (.iload_n 2, 1) := by decide +kernel
theorem dX2_coinsAhead_21 : decode cX2_coinsAhead 21 = .ok (.invokevirtual 86, 3) := by decide +kernel
theorem dX2_coinsAhead_24 : decode cX2_coinsAhead 24 = .ok (.aload_n 0, 1) := by decide +kernel
theorem dX2_coinsAhead_25 : decode cX2_coinsAhead 25 = .ok (.getfield 25, 3) := by decide +kernel
theorem dX2_coinsAhead_28 : decode cX2_coinsAhead 28 = .ok (.iload_n 3, 1) := by decide +kernel
theorem dX2_coinsAhead_29 : decode cX2_coinsAhead 29 = .ok (.invokevirtual 112, 3) := by decide +kernel
theorem dX2_coinsAhead_32 : decode cX2_coinsAhead 32 = .ok (.pop, 1) := by decide +kernel
theorem dX2_coinsAhead_33 : decode cX2_coinsAhead 33 = .ok (.aload_n 0, 1) := by decide +kernel
theorem dX2_coinsAhead_34 : decode cX2_coinsAhead 34 = .ok (.getfield 25, 3) := by decide +kernel
theorem dX2_coinsAhead_37 : decode cX2_coinsAhead 37 = .ok (.getfield 43, 3) := by decide +kernel
theorem dX2_coinsAhead_40 : decode cX2_coinsAhead 40 = .ok (.iload_n 1, 1) := by decide +kernel
theorem dX2_coinsAhead_41 : decode cX2_coinsAhead 41 = .ok (.iaload, 1) := by decide +kernel
theorem dX2_coinsAhead_42 : decode cX2_coinsAhead 42 = .ok (.ireturn, 1) := by decide +kernel
theorem dX2_requireParty_0 : decode cX2_requireParty 0 = .ok (.iload_n 1, 1) := by decide +kernel
theorem dX2_requireParty_1 : decode cX2_requireParty 1 = .ok (.ifCond .lt 11, 3) := by decide +kernel
theorem dX2_requireParty_4 : decode cX2_requireParty 4 = .ok (.iload_n 1, 1) := by decide +kernel
theorem dX2_requireParty_5 : decode cX2_requireParty 5 = .ok (.aload_n 0, 1) := by decide +kernel
theorem dX2_requireParty_6 : decode cX2_requireParty 6 = .ok (.getfield 32, 3) := by decide +kernel
theorem dX2_requireParty_9 : decode cX2_requireParty 9 = .ok (.if_icmp .lt 13, 3) := by decide +kernel
theorem dX2_requireParty_12 : decode cX2_requireParty 12 = .ok (.new 217, 3) := by decide +kernel
theorem dX2_requireParty_15 : decode cX2_requireParty 15 = .ok (.dup, 1) := by decide +kernel
theorem dX2_requireParty_16 : decode cX2_requireParty 16 = .ok (.ldc 219, 2) := by decide +kernel
theorem dX2_requireParty_18 : decode cX2_requireParty 18 = .ok (.invokespecial 221, 3) := by decide +kernel
theorem dX2_requireParty_21 : decode cX2_requireParty 21 = .ok (.athrow, 1) := by decide +kernel
theorem dX2_requireParty_22 : decode cX2_requireParty 22 = .ok (.return_, 1) := by decide +kernel
theorem dX2_requireDuty_0 : decode cX2_requireDuty 0 = .ok (.iload_n 1, 1) := by decide +kernel
theorem dX2_requireDuty_1 : decode cX2_requireDuty 1 = .ok (.ifCond .lt 14, 3) := by decide +kernel
theorem dX2_requireDuty_4 : decode cX2_requireDuty 4 = .ok (.iload_n 1, 1) := by decide +kernel
theorem dX2_requireDuty_5 : decode cX2_requireDuty 5 = .ok (.aload_n 0, 1) := by decide +kernel
theorem dX2_requireDuty_6 : decode cX2_requireDuty 6 = .ok (.getfield 10, 3) := by decide +kernel
theorem dX2_requireDuty_9 : decode cX2_requireDuty 9 = .ok (.getfield 59, 3) := by decide +kernel
theorem dX2_requireDuty_12 : decode cX2_requireDuty 12 = .ok (.if_icmp .lt 13, 3) := by decide +kernel
theorem dX2_requireDuty_15 : decode cX2_requireDuty 15 = .ok (.new 217, 3) := by decide +kernel
theorem dX2_requireDuty_18 : decode cX2_requireDuty 18 = .ok (.dup, 1) := by decide +kernel
theorem dX2_requireDuty_19 : decode cX2_requireDuty 19 = .ok (.ldc 222, 2) := by decide +kernel
theorem dX2_requireDuty_21 : decode cX2_requireDuty 21 = .ok (.invokespecial 221, 3) := by decide +kernel
theorem dX2_requireDuty_24 : decode cX2_requireDuty 24 = .ok (.athrow, 1) := by decide +kernel
theorem dX2_requireDuty_25 : decode cX2_requireDuty 25 = .ok (.return_, 1) := by decide +kernel
theorem dX2_requireWithin_0 : decode cX2_requireWithin 0 = .ok (.iload_n 0, 1) := by decide +kernel
theorem dX2_requireWithin_1 : decode cX2_requireWithin 1 = .ok (.iload_n 1, 1) := by decide +kernel
theorem dX2_requireWithin_2 : decode cX2_requireWithin 2 = .ok (.if_icmp .lt 8, 3) := by decide +kernel
theorem dX2_requireWithin_5 : decode cX2_requireWithin 5 = .ok (.iload_n 0, 1) := by decide +kernel
theorem dX2_requireWithin_6 : decode cX2_requireWithin 6 = .ok (.iload_n 2, 1) := by decide +kernel
theorem dX2_requireWithin_7 : decode cX2_requireWithin 7 = .ok (.if_icmp .le 13, 3) := by decide +kernel
theorem dX2_requireWithin_10 : decode cX2_requireWithin 10 = .ok (.new 54, 3) := by decide +kernel
theorem dX2_requireWithin_13 : decode cX2_requireWithin 13 = .ok (.dup, 1) := by decide +kernel
theorem dX2_requireWithin_14 : decode cX2_requireWithin 14 = .ok (.ldc 224, 2) := by decide +kernel
theorem dX2_requireWithin_16 : decode cX2_requireWithin 16 = .ok (.invokespecial 58, 3) := by decide +kernel
theorem dX2_requireWithin_19 : decode cX2_requireWithin 19 = .ok (.athrow, 1) := by decide +kernel
theorem dX2_requireWithin_20 : decode cX2_requireWithin 20 = .ok (.return_, 1) := by decide +kernel
theorem dX3_init_0 : decode cX3_init 0 = .ok (.aload_n 0, 1) := by decide +kernel
theorem dX3_init_1 : decode cX3_init 1 = .ok (.invokespecial 3, 3) := by decide +kernel
theorem dX3_init_4 : decode cX3_init 4 = .ok (.aload_n 0, 1) := by decide +kernel
theorem dX3_init_5 : decode cX3_init 5 = .ok (.bipush 20, 2) := by decide +kernel
theorem dX3_init_7 : decode cX3_init 7 = .ok (.newarray .int, 2) := by decide +kernel
theorem dX3_init_9 : decode cX3_init 9 = .ok (.putfield 9, 3) := by decide +kernel
theorem dX3_init_12 : decode cX3_init 12 = .ok (.aload_n 0, 1) := by decide +kernel
theorem dX3_init_13 : decode cX3_init 13 = .ok (.bipush 20, 2) := by decide +kernel
theorem dX3_init_15 : decode cX3_init 15 = .ok (.newarray .int, 2) := by decide +kernel
theorem dX3_init_17 : decode cX3_init 17 = .ok (.putfield 13, 3) := by decide +kernel
theorem dX3_init_20 : decode cX3_init 20 = .ok (.aload_n 0, 1) := by decide +kernel
theorem dX3_init_21 : decode cX3_init 21 = .ok (.bipush 20, 2) := by decide +kernel
theorem dX3_init_23 : decode cX3_init 23 = .ok (.newarray .int, 2) := by decide +kernel
theorem dX3_init_25 : decode cX3_init 25 = .ok (.putfield 16, 3) := by decide +kernel
theorem dX3_init_28 : decode cX3_init 28 = .ok (.aload_n 0, 1) := by decide +kernel
theorem dX3_init_29 : decode cX3_init 29 = .ok (.bipush 20, 2) := by decide +kernel
theorem dX3_init_31 : decode cX3_init 31 = .ok (.newarray .int, 2) := by decide +kernel
theorem dX3_init_33 : decode cX3_init 33 = .ok (.putfield 19, 3) := by decide +kernel
theorem dX3_init_36 : decode cX3_init 36 = .ok (.aload_n 0, 1) := by decide +kernel
theorem dX3_init_37 : decode cX3_init 37 = .ok (.bipush 20, 2) := by decide +kernel
theorem dX3_init_39 : decode cX3_init 39 = .ok (.newarray .int, 2) := by decide +kernel
theorem dX3_init_41 : decode cX3_init 41 = .ok (.putfield 22, 3) := by decide +kernel
theorem dX3_init_44 : decode cX3_init 44 = .ok (.aload_n 0, 1) := by decide +kernel
theorem dX3_init_45 : decode cX3_init 45 = .ok (.bipush 20, 2) := by decide +kernel
theorem dX3_init_47 : decode cX3_init 47 = .ok (.newarray .int, 2) := by decide +kernel
theorem dX3_init_49 : decode cX3_init 49 = .ok (.putfield 25, 3) := by decide +kernel
theorem dX3_init_52 : decode cX3_init 52 = .ok (.aload_n 0, 1) := by decide +kernel
theorem dX3_init_53 : decode cX3_init 53 = .ok (.bipush 20, 2) := by decide +kernel
theorem dX3_init_55 : decode cX3_init 55 = .ok (.newarray .int, 2) := by decide +kernel
theorem dX3_init_57 : decode cX3_init 57 = .ok (.putfield 28, 3) := by decide +kernel
theorem dX3_init_60 : decode cX3_init 60 = .ok (.aload_n 0, 1) := by decide +kernel
theorem dX3_init_61 : decode cX3_init 61 = .ok (.bipush 68, 2) := by decide +kernel
theorem dX3_init_63 : decode cX3_init 63 = .ok (.newarray .int, 2) := by decide +kernel
theorem dX3_init_65 : decode cX3_init 65 = .ok (.putfield 31, 3) := by decide +kernel
theorem dX3_init_68 : decode cX3_init 68 = .ok (.aload_n 0, 1) := by decide +kernel
theorem dX3_init_69 : decode cX3_init 69 = .ok (.bipush 68, 2) := by decide +kernel
theorem dX3_init_71 : decode cX3_init 71 = .ok (.newarray .int, 2) := by decide +kernel
theorem dX3_init_73 : decode cX3_init 73 = .ok (.putfield 34, 3) := by decide +kernel
theorem dX3_init_76 : decode cX3_init 76 = .ok (.aload_n 0, 1) := by decide +kernel
theorem dX3_init_77 : decode cX3_init 77 = .ok (.new 37, 3) := by decide +kernel
theorem dX3_init_80 : decode cX3_init 80 = .ok (.dup, 1) := by decide +kernel
theorem dX3_init_81 : decode cX3_init 81 = .ok (.invokespecial 39, 3) := by decide +kernel
theorem dX3_init_84 : decode cX3_init 84 = .ok (.putfield 40, 3) := by decide +kernel
theorem dX3_init_87 : decode cX3_init 87 = .ok (.return_, 1) := by decide +kernel
theorem dX3_thrown_0 : decode cX3_thrown 0 = .ok (.aload_n 0, 1) := by decide +kernel
theorem dX3_thrown_1 : decode cX3_thrown 1 = .ok (.getfield 44, 3) := by decide +kernel
theorem dX3_thrown_4 : decode cX3_thrown 4 = .ok (.ireturn, 1) := by decide +kernel
theorem dX3_no_0 : decode cX3_no 0 = .ok (.aload_n 0, 1) := by decide +kernel
theorem dX3_no_1 : decode cX3_no 1 = .ok (.iload_n 1, 1) := by decide +kernel
theorem dX3_no_2 : decode cX3_no 2 = .ok (.putfield 44, 3) := by decide +kernel
theorem dX3_no_5 : decode cX3_no 5 = .ok (.iconst 0, 1) := by decide +kernel
theorem dX3_no_6 : decode cX3_no 6 = .ok (.ireturn, 1) := by decide +kernel
theorem dX3_ok_0 : decode cX3_ok 0 = .ok (.aload_n 0, 1) := by decide +kernel
theorem dX3_ok_1 : decode cX3_ok 1 = .ok (.iconst 0, 1) := by decide +kernel
theorem dX3_ok_2 : decode cX3_ok 2 = .ok (.putfield 44, 3) := by decide +kernel
theorem dX3_ok_5 : decode cX3_ok 5 = .ok (.iload_n 1, 1) := by decide +kernel
theorem dX3_ok_6 : decode cX3_ok 6 = .ok (.ireturn, 1) := by decide +kernel
theorem dX3_isFrom_0 : decode cX3_isFrom 0 = .ok (.iload_n 0, 1) := by decide +kernel
theorem dX3_isFrom_1 : decode cX3_isFrom 1 = .ok (.iload_n 1, 1) := by decide +kernel
theorem dX3_isFrom_2 : decode cX3_isFrom 2 = .ok (.if_icmp .lt 12, 3) := by decide +kernel
theorem dX3_isFrom_5 : decode cX3_isFrom 5 = .ok (.iload_n 0, 1) := by decide +kernel
theorem dX3_isFrom_6 : decode cX3_isFrom 6 = .ok (.iload_n 2, 1) := by decide +kernel
theorem dX3_isFrom_7 : decode cX3_isFrom 7 = .ok (.if_icmp .gt 7, 3) := by decide +kernel
theorem dX3_isFrom_10 : decode cX3_isFrom 10 = .ok (.iconst 1, 1) := by decide +kernel
theorem dX3_isFrom_11 : decode cX3_isFrom 11 = .ok (.goto 4, 3) := by decide +kernel
theorem dX3_isFrom_14 : decode cX3_isFrom 14 = .ok (.iconst 0, 1) := by decide +kernel
theorem dX3_isFrom_15 : decode cX3_isFrom 15 = .ok (.ireturn, 1) := by decide +kernel
theorem dX3_isParty_0 : decode cX3_isParty 0 = .ok (.iload_n 1, 1) := by decide +kernel
theorem dX3_isParty_1 : decode cX3_isParty 1 = .ok (.iconst 0, 1) := by decide +kernel
theorem dX3_isParty_2 : decode cX3_isParty 2 = .ok (.aload_n 0, 1) := by decide +kernel
theorem dX3_isParty_3 : decode cX3_isParty 3 = .ok (.getfield 48, 3) := by decide +kernel
theorem dX3_isParty_6 : decode cX3_isParty 6 = .ok (.iconst 1, 1) := by decide +kernel
theorem dX3_isParty_7 : decode cX3_isParty 7 = .ok (.isub, 1) := by decide +kernel
theorem dX3_isParty_8 : decode cX3_isParty 8 = .ok (.invokestatic 51, 3) := by decide +kernel
theorem dX3_isParty_11 : decode cX3_isParty 11 = .ok (.ireturn, 1) := by decide +kernel
theorem dX3_isDuty_0 : decode cX3_isDuty 0 = .ok (.iload_n 1, 1) := by decide +kernel
theorem dX3_isDuty_1 : decode cX3_isDuty 1 = .ok (.iconst 0, 1) := by decide +kernel
theorem dX3_isDuty_2 : decode cX3_isDuty 2 = .ok (.aload_n 0, 1) := by decide +kernel
theorem dX3_isDuty_3 : decode cX3_isDuty 3 = .ok (.getfield 55, 3) := by decide +kernel
theorem dX3_isDuty_6 : decode cX3_isDuty 6 = .ok (.iconst 1, 1) := by decide +kernel
theorem dX3_isDuty_7 : decode cX3_isDuty 7 = .ok (.isub, 1) := by decide +kernel
theorem dX3_isDuty_8 : decode cX3_isDuty 8 = .ok (.invokestatic 51, 3) := by decide +kernel
theorem dX3_isDuty_11 : decode cX3_isDuty 11 = .ok (.ireturn, 1) := by decide +kernel
theorem dX3_keep_0 : decode cX3_keep 0 = .ok (.aload_n 0, 1) := by decide +kernel
theorem dX3_keep_1 : decode cX3_keep 1 = .ok (.getfield 31, 3) := by decide +kernel
theorem dX3_keep_4 : decode cX3_keep 4 = .ok (.iconst 0, 1) := by decide +kernel
theorem dX3_keep_5 : decode cX3_keep 5 = .ok (.aload_n 0, 1) := by decide +kernel
theorem dX3_keep_6 : decode cX3_keep 6 = .ok (.getfield 34, 3) := by decide +kernel
theorem dX3_keep_9 : decode cX3_keep 9 = .ok (.iconst 0, 1) := by decide +kernel
theorem dX3_keep_10 : decode cX3_keep 10 = .ok (.bipush 68, 2) := by decide +kernel
theorem dX3_keep_12 : decode cX3_keep 12 = .ok (.invokestatic 58, 3) := by decide +kernel
theorem dX3_keep_15 : decode cX3_keep 15 = .ok (.return_, 1) := by decide +kernel
theorem dX3_bringBack_0 : decode cX3_bringBack 0 = .ok (.aload_n 0, 1) := by decide +kernel
theorem dX3_bringBack_1 : decode cX3_bringBack 1 = .ok (.getfield 34, 3) := by decide +kernel
theorem dX3_bringBack_4 : decode cX3_bringBack 4 = .ok (.iconst 0, 1) := by decide +kernel
theorem dX3_bringBack_5 : decode cX3_bringBack 5 = .ok (.aload_n 0, 1) := by decide +kernel
theorem dX3_bringBack_6 : decode cX3_bringBack 6 = .ok (.getfield 31, 3) := by decide +kernel
theorem dX3_bringBack_9 : decode cX3_bringBack 9 = .ok (.iconst 0, 1) := by decide +kernel
theorem dX3_bringBack_10 : decode cX3_bringBack 10 = .ok (.bipush 68, 2) := by decide +kernel
theorem dX3_bringBack_12 : decode cX3_bringBack 12 = .ok (.invokestatic 58, 3) := by decide +kernel
theorem dX3_bringBack_15 : decode cX3_bringBack 15 = .ok (.return_, 1) := by decide +kernel
theorem dX3_state_0 : decode cX3_state 0 = .ok (.aload_n 0, 1) := by decide +kernel
theorem dX3_state_1 : decode cX3_state 1 = .ok (.getfield 31, 3) := by decide +kernel
theorem dX3_state_4 : decode cX3_state 4 = .ok (.bipush 8, 2) := by decide +kernel
theorem dX3_state_6 : decode cX3_state 6 = .ok (.iload_n 1, 1) := by decide +kernel
theorem dX3_state_7 : decode cX3_state 7 = .ok (.iadd, 1) := by decide +kernel
theorem dX3_state_8 : decode cX3_state 8 = .ok (.iaload, 1) := by decide +kernel
theorem dX3_state_9 : decode cX3_state 9 = .ok (.ireturn, 1) := by decide +kernel
theorem dX3_isOpen_0 : decode cX3_isOpen 0 = .ok (.aload_n 0, 1) := by decide +kernel
theorem dX3_isOpen_1 : decode cX3_isOpen 1 = .ok (.iload_n 1, 1) := by decide +kernel
theorem dX3_isOpen_2 : decode cX3_isOpen 2 = .ok (.invokevirtual 64, 3) := by decide +kernel
theorem dX3_isOpen_5 : decode cX3_isOpen 5 = .ok (.iconst 1, 1) := by decide +kernel
theorem dX3_isOpen_6 : decode cX3_isOpen 6 = .ok (.if_icmp .eq 12, 3) := by decide +kernel
theorem dX3_isOpen_9 : decode cX3_isOpen 9 = .ok (.aload_n 0, 1) := by decide +kernel
theorem dX3_isOpen_10 : decode cX3_isOpen 10 = .ok (.iload_n 1, 1) := by decide +kernel
theorem dX3_isOpen_11 : decode cX3_isOpen 11 = .ok (.invokevirtual 64, 3) := by decide +kernel
theorem dX3_isOpen_14 : decode cX3_isOpen 14 = .ok (.iconst 2, 1) := by decide +kernel
theorem dX3_isOpen_15 : decode cX3_isOpen 15 = .ok (.if_icmp .ne 7, 3) := by decide +kernel
theorem dX3_isOpen_18 : decode cX3_isOpen 18 = .ok (.iconst 1, 1) := by decide +kernel
theorem dX3_isOpen_19 : decode cX3_isOpen 19 = .ok (.goto 4, 3) := by decide +kernel
theorem dX3_isOpen_22 : decode cX3_isOpen 22 = .ok (.iconst 0, 1) := by decide +kernel
theorem dX3_isOpen_23 : decode cX3_isOpen 23 = .ok (.ireturn, 1) := by decide +kernel
theorem dX3_price_0 : decode cX3_price 0 = .ok (.aload_n 0, 1) := by decide +kernel
theorem dX3_price_1 : decode cX3_price 1 = .ok (.iload_n 1, 1) := by decide +kernel
theorem dX3_price_2 : decode cX3_price 2 = .ok (.invokevirtual 64, 3) := by decide +kernel
theorem dX3_price_5 : decode cX3_price 5 = .ok (.iconst 1, 1) := by decide +kernel
theorem dX3_price_6 : decode cX3_price 6 = .ok (.if_icmp .ne 12, 3) := by decide +kernel
theorem dX3_price_9 : decode cX3_price 9 = .ok (.aload_n 0, 1) := by decide +kernel
theorem dX3_price_10 : decode cX3_price 10 = .ok (.getfield 16, 3) := by decide +kernel
theorem dX3_price_13 : decode cX3_price 13 = .ok (.iload_n 1, 1) := by decide +kernel
theorem dX3_price_14 : decode cX3_price 14 = .ok (.iaload, 1) := by decide +kernel
theorem dX3_price_15 : decode cX3_price 15 = .ok (.goto 31, 3) := by decide +kernel
theorem dX3_price_18 : decode cX3_price 18 = .ok (.aload_n 0, 1) := by decide +kernel
theorem dX3_price_19 : decode cX3_price 19 = .ok (.iload_n 1, 1) := by decide +kernel
theorem dX3_price_20 : decode cX3_price 20 = .ok (.invokevirtual 64, 3) := by decide +kernel
theorem dX3_price_23 : decode cX3_price 23 = .ok (.iconst 2, 1) := by decide +kernel
theorem dX3_price_24 : decode cX3_price 24 = .ok (.if_icmp .ne 21, 3) := by decide +kernel
theorem dX3_price_27 : decode cX3_price 27 = .ok (.aload_n 0, 1) := by decide +kernel
theorem dX3_price_28 : decode cX3_price 28 = .ok (.getfield 16, 3) := by decide +kernel
theorem dX3_price_31 : decode cX3_price 31 = .ok (.iload_n 1, 1) := by decide +kernel
theorem dX3_price_32 : decode cX3_price 32 = .ok (.iaload, 1) := by decide +kernel
theorem dX3_price_33 : decode cX3_price 33 = .ok (.aload_n 0, 1) := by decide +kernel
theorem dX3_price_34 : decode cX3_price 34 = .ok (.getfield 25, 3) := by decide +kernel
theorem dX3_price_37 : decode cX3_price 37 = .ok (.iload_n 1, 1) := by decide +kernel
theorem dX3_price_38 : decode cX3_price 38 = .ok (.iaload, 1) := by decide +kernel
theorem dX3_price_39 : decode cX3_price 39 = .ok (.iconst 2, 1) := by decide +kernel
theorem dX3_price_40 : decode cX3_price 40 = .ok (.idiv, 1) := by decide +kernel
theorem dX3_price_41 : decode cX3_price 41 = .ok (.iadd, 1) := by decide +kernel
theorem dX3_price_42 : decode cX3_price 42 = .ok (.goto 4, 3) := by decide +kernel
theorem dX3_price_45 : decode cX3_price 45 = .ok (.iconst 0, 1) := by decide +kernel
theorem dX3_price_46 : decode cX3_price 46 = .ok (.ireturn, 1) := by decide +kernel
theorem dX3_run_0 : decode cX3_run 0 = .ok (.aload_n 0, 1) := by decide +kernel
theorem dX3_run_1 : decode cX3_run 1 = .ok (.getfield 31, 3) := by decide +kernel
theorem dX3_run_4 : decode cX3_run 4 = .ok (.bipush 8, 2) := by decide +kernel
theorem dX3_run_6 : decode cX3_run 6 = .ok (.iload_n 1, 1) := by decide +kernel
theorem dX3_run_7 : decode cX3_run 7 = .ok (.iadd, 1) := by decide +kernel
theorem dX3_run_8 : decode cX3_run 8 = .ok (.iconst 1, 1) := by decide +kernel
theorem dX3_run_9 : decode cX3_run 9 = .ok (.iastore, 1) := by decide +kernel
theorem dX3_run_10 : decode cX3_run 10 = .ok (.aload_n 0, 1) := by decide +kernel
theorem dX3_run_11 : decode cX3_run 11 = .ok (.getfield 31, 3) := by decide +kernel
theorem dX3_run_14 : decode cX3_run 14 = .ok (.bipush 28, 2) := by decide +kernel
theorem dX3_run_16 : decode cX3_run 16 = .ok (.iload_n 1, 1) := by decide +kernel
theorem dX3_run_17 : decode cX3_run 17 = .ok (.iadd, 1) := by decide +kernel
theorem dX3_run_18 : decode cX3_run 18 = .ok (.aload_n 0, 1) := by decide +kernel
theorem dX3_run_19 : decode cX3_run 19 = .ok (.getfield 19, 3) := by decide +kernel
theorem dX3_run_22 : decode cX3_run 22 = .ok (.iload_n 1, 1) := by decide +kernel
theorem dX3_run_23 : decode cX3_run 23 = .ok (.iaload, 1) := by decide +kernel
theorem dX3_run_24 : decode cX3_run 24 = .ok (.iastore, 1) := by decide +kernel
theorem dX3_run_25 : decode cX3_run 25 = .ok (.aload_n 0, 1) := by decide +kernel
theorem dX3_run_26 : decode cX3_run 26 = .ok (.getfield 31, 3) := by decide +kernel
theorem dX3_run_29 : decode cX3_run 29 = .ok (.bipush 48, 2) := by decide +kernel
theorem dX3_run_31 : decode cX3_run 31 = .ok (.iload_n 1, 1) := by decide +kernel
theorem dX3_run_32 : decode cX3_run 32 = .ok (.iadd, 1) := by decide +kernel
theorem dX3_run_33 : decode cX3_run 33 = .ok (.iconst 0, 1) := by decide +kernel
theorem dX3_run_34 : decode cX3_run 34 = .ok (.iastore, 1) := by decide +kernel
theorem dX3_run_35 : decode cX3_run 35 = .ok (.return_, 1) := by decide +kernel
theorem dX3_end_0 : decode cX3_end 0 = .ok (.aload_n 0, 1) := by decide +kernel
theorem dX3_end_1 : decode cX3_end 1 = .ok (.getfield 31, 3) := by decide +kernel
theorem dX3_end_4 : decode cX3_end 4 = .ok (.bipush 8, 2) := by decide +kernel
theorem dX3_end_6 : decode cX3_end 6 = .ok (.iload_n 1, 1) := by decide +kernel
theorem dX3_end_7 : decode cX3_end 7 = .ok (.iadd, 1) := by decide +kernel
theorem dX3_end_8 : decode cX3_end 8 = .ok (.iload_n 2, 1) := by decide +kernel
theorem dX3_end_9 : decode cX3_end 9 = .ok (.iastore, 1) := by decide +kernel
theorem dX3_end_10 : decode cX3_end 10 = .ok (.aload_n 0, 1) := by decide +kernel
theorem dX3_end_11 : decode cX3_end 11 = .ok (.getfield 31, 3) := by decide +kernel
theorem dX3_end_14 : decode cX3_end 14 = .ok (.bipush 28, 2) := by decide +kernel
theorem dX3_end_16 : decode cX3_end 16 = .ok (.iload_n 1, 1) := by decide +kernel
theorem dX3_end_17 : decode cX3_end 17 = .ok (.iadd, 1) := by decide +kernel
theorem dX3_end_18 : decode cX3_end 18 = .ok (.iconst 0, 1) := by decide +kernel
theorem dX3_end_19 : decode cX3_end 19 = .ok (.iastore, 1) := by decide +kernel
theorem dX3_end_20 : decode cX3_end 20 = .ok (.aload_n 0, 1) := by decide +kernel
theorem dX3_end_21 : decode cX3_end 21 = .ok (.getfield 31, 3) := by decide +kernel
theorem dX3_end_24 : decode cX3_end 24 = .ok (.bipush 48, 2) := by decide +kernel
theorem dX3_end_26 : decode cX3_end 26 = .ok (.iload_n 1, 1) := by decide +kernel
theorem dX3_end_27 : decode cX3_end 27 = .ok (.iadd, 1) := by decide +kernel
theorem dX3_end_28 : decode cX3_end 28 = .ok (.iconst 0, 1) := by decide +kernel
theorem dX3_end_29 : decode cX3_end 29 = .ok (.iastore, 1) := by decide +kernel
theorem dX3_end_30 : decode cX3_end 30 = .ok (.return_, 1) := by decide +kernel
theorem dX3_move_0 : decode cX3_move 0 = .ok (.aload_n 0, 1) := by decide +kernel
theorem dX3_move_1 : decode cX3_move 1 = .ok (.getfield 31, 3) := by decide +kernel
theorem dX3_move_4 : decode cX3_move 4 = .ok (.iconst 2, 1) := by decide +kernel
theorem dX3_move_5 : decode cX3_move 5 = .ok (.iload_n 1, 1) := by decide +kernel
theorem dX3_move_6 : decode cX3_move 6 = .ok (.iadd, 1) := by decide +kernel
theorem dX3_move_7 : decode cX3_move 7 = .ok (.dup2, 1) := by decide +kernel
theorem dX3_move_8 : decode cX3_move 8 = .ok (.iaload, 1) := by decide +kernel
theorem dX3_move_9 : decode cX3_move 9 = .ok (.iload_n 3, 1) := by decide +kernel
theorem dX3_move_10 : decode cX3_move 10 = .ok (.isub, 1) := by decide +kernel
theorem dX3_move_11 : decode cX3_move 11 = .ok (.iastore, 1) := by decide +kernel
theorem dX3_move_12 : decode cX3_move 12 = .ok (.aload_n 0, 1) := by decide +kernel
theorem dX3_move_13 : decode cX3_move 13 = .ok (.getfield 31, 3) := by decide +kernel
theorem dX3_move_16 : decode cX3_move 16 = .ok (.iconst 2, 1) := by decide +kernel
theorem dX3_move_17 : decode cX3_move 17 = .ok (.iload_n 2, 1) := by decide +kernel
theorem dX3_move_18 : decode cX3_move 18 = .ok (.iadd, 1) := by decide +kernel
theorem dX3_move_19 : decode cX3_move 19 = .ok (.dup2, 1) := by decide +kernel
theorem dX3_move_20 : decode cX3_move 20 = .ok (.iaload, 1) := by decide +kernel
theorem dX3_move_21 : decode cX3_move 21 = .ok (.iload_n 3, 1) := by decide +kernel
theorem dX3_move_22 : decode cX3_move 22 = .ok (.iadd, 1) := by decide +kernel
theorem dX3_move_23 : decode cX3_move 23 = .ok (.iastore, 1) := by decide +kernel
theorem dX3_move_24 : decode cX3_move 24 = .ok (.return_, 1) := by decide +kernel
theorem dX3_releaseBehind_0 : decode cX3_releaseBehind 0 = .ok (.iconst 0, 1) := by decide +kernel
theorem dX3_releaseBehind_1 : decode cX3_releaseBehind 1 = .ok (.istore_n 2, 1) := by decide +kernel
theorem dX3_releaseBehind_2 : decode cX3_releaseBehind 2 = .ok (.iload_n 1, 1) := by decide +kernel
theorem dX3_releaseBehind_3 : decode cX3_releaseBehind 3 = .ok (.iconst 1, 1) := by decide +kernel
theorem dX3_releaseBehind_4 : decode cX3_releaseBehind 4 = .ok (.iadd, 1) := by decide +kernel
theorem dX3_releaseBehind_5 : decode cX3_releaseBehind 5 = .ok (.istore_n 3, 1) := by decide +kernel
theorem dX3_releaseBehind_6 : decode cX3_releaseBehind 6 = .ok (.iload_n 3, 1) := by decide +kernel
theorem dX3_releaseBehind_7 : decode cX3_releaseBehind 7 = .ok (.aload_n 0, 1) := by decide +kernel
theorem dX3_releaseBehind_8 : decode cX3_releaseBehind 8 = .ok (.getfield 55, 3) := by decide +kernel
theorem dX3_releaseBehind_11 : decode cX3_releaseBehind 11 = .ok (.if_icmp .ge 66, 3) := by decide +kernel
theorem dX3_releaseBehind_14 : decode cX3_releaseBehind 14 = .ok (.aload_n 0, 1) := by decide +kernel
theorem dX3_releaseBehind_15 : decode cX3_releaseBehind 15 = .ok (.iload_n 3, 1) := by decide +kernel
theorem dX3_releaseBehind_16 : decode cX3_releaseBehind 16 = .ok (.invokevirtual 64, 3) := by decide +kernel
theorem dX3_releaseBehind_19 : decode cX3_releaseBehind 19 = .ok (.ifCond .ne 52, 3) := by decide +kernel
theorem dX3_releaseBehind_22 : decode cX3_releaseBehind 22 = .ok (.aload_n 0, 1) := by decide +kernel
theorem dX3_releaseBehind_23 : decode cX3_releaseBehind 23 = .ok (.getfield 28, 3) := by decide +kernel
theorem dX3_releaseBehind_26 : decode cX3_releaseBehind 26 = .ok (.iload_n 3, 1) := by decide +kernel
theorem dX3_releaseBehind_27 : decode cX3_releaseBehind 27 = .ok (.iaload, 1) := by decide +kernel
theorem dX3_releaseBehind_28 : decode cX3_releaseBehind 28 = .ok (.iconst (-1), 1) := by decide +kernel
theorem dX3_releaseBehind_29 : decode cX3_releaseBehind 29 = .ok (.if_icmp .ne 6, 3) := by decide +kernel
theorem dX3_releaseBehind_32 : decode cX3_releaseBehind 32 = .ok (.goto 39, 3) := by decide +kernel
theorem dX3_releaseBehind_35 : decode cX3_releaseBehind 35 = .ok (.aload_n 0, 1) := by decide +kernel
theorem dX3_releaseBehind_36 : decode cX3_releaseBehind 36 = .ok (.aload_n 0, 1) := by decide +kernel
theorem dX3_releaseBehind_37 : decode cX3_releaseBehind 37 = .ok (.getfield 28, 3) := by decide +kernel
theorem dX3_releaseBehind_40 : decode cX3_releaseBehind 40 = .ok (.iload_n 3, 1) := by decide +kernel
theorem dX3_releaseBehind_41 : decode cX3_releaseBehind 41 = .ok (.iaload, 1) := by decide +kernel
theorem dX3_releaseBehind_42 : decode cX3_releaseBehind 42 = .ok (.invokevirtual 64, 3) := by decide +kernel
theorem dX3_releaseBehind_45 : decode cX3_releaseBehind 45 = .ok (.istore 4, 2) := by decide +kernel
theorem dX3_releaseBehind_47 : decode cX3_releaseBehind 47 = .ok (.iload 4, 2) := by decide +kernel
theorem dX3_releaseBehind_49 : decode cX3_releaseBehind 49 = .ok (.iconst 4, 1) := by decide +kernel
theorem dX3_releaseBehind_50 : decode cX3_releaseBehind 50 = .ok (.if_icmp .eq 12, 3) := by decide +kernel
theorem dX3_releaseBehind_53 : decode cX3_releaseBehind 53 = .ok (.iload 4, 2) := by decide +kernel
theorem dX3_releaseBehind_55 : decode cX3_releaseBehind 55 = .ok (.iconst 5, 1) := by decide +kernel
theorem dX3_releaseBehind_56 : decode cX3_releaseBehind 56 = .ok (.if_icmp .eq 6, 3) := by decide +kernel
theorem dX3_releaseBehind_59 : decode cX3_releaseBehind 59 = .ok (.goto 12, 3) := by decide +kernel
theorem dX3_releaseBehind_62 : decode cX3_releaseBehind 62 = .ok (.aload_n 0, 1) := by decide +kernel
theorem dX3_releaseBehind_63 : decode cX3_releaseBehind 63 = .ok (.iload_n 3, 1) := by decide +kernel
theorem dX3_releaseBehind_64 : decode cX3_releaseBehind 64 = .ok (.iconst 5, 1) := by decide +kernel
theorem dX3_releaseBehind_65 : decode cX3_releaseBehind 65 = .ok (.invokevirtual 68, 3) := by decide +kernel
theorem dX3_releaseBehind_68 : decode cX3_releaseBehind 68 = .ok (.iinc 2 1, 3) := by decide +kernel
theorem dX3_releaseBehind_71 : decode cX3_releaseBehind 71 = .ok (.iinc 3 1, 3) := by decide +kernel
theorem dX3_releaseBehind_74 : decode cX3_releaseBehind 74 = .ok (.goto (-68), 3) := by decide +kernel
theorem dX3_releaseBehind_77 : decode cX3_releaseBehind 77 = .ok (.iload_n 2, 1) := by decide +kernel
theorem dX3_releaseBehind_78 : decode cX3_releaseBehind 78 = .ok (.ireturn, 1) := by decide +kernel
theorem dX3_paid_0 : decode cX3_paid 0 = .ok (.aload_n 0, 1) := by decide +kernel
theorem dX3_paid_1 : decode cX3_paid 1 = .ok (.aload_n 0, 1) := by decide +kernel
theorem dX3_paid_2 : decode cX3_paid 2 = .ok (.getfield 9, 3) := by decide +kernel
theorem dX3_paid_5 : decode cX3_paid 5 = .ok (.iload_n 1, 1) := by decide +kernel
theorem dX3_paid_6 : decode cX3_paid 6 = .ok (.iaload, 1) := by decide +kernel
theorem dX3_paid_7 : decode cX3_paid 7 = .ok (.aload_n 0, 1) := by decide +kernel
theorem dX3_paid_8 : decode cX3_paid 8 = .ok (.getfield 13, 3) := by decide +kernel
theorem dX3_paid_11 : decode cX3_paid 11 = .ok (.iload_n 1, 1) := by decide +kernel
theorem dX3_paid_12 : decode cX3_paid 12 = .ok (.iaload, 1) := by decide +kernel
theorem dX3_paid_13 : decode cX3_paid 13 = .ok (.aload_n 0, 1) := by decide +kernel
theorem dX3_paid_14 : decode cX3_paid 14 = .ok (.iload_n 1, 1) := by decide +kernel
theorem dX3_paid_15 : decode cX3_paid 15 = .ok (.invokevirtual 72, 3) := by decide +kernel
theorem dX3_paid_18 : decode cX3_paid 18 = .ok (.invokevirtual 75, 3) := by decide +kernel
theorem dX3_paid_21 : decode cX3_paid 21 = .ok (.aload_n 0, 1) := by decide +kernel
theorem dX3_paid_22 : decode cX3_paid 22 = .ok (.iload_n 1, 1) := by decide +kernel
theorem dX3_paid_23 : decode cX3_paid 23 = .ok (.iconst 3, 1) := by decide +kernel
theorem dX3_paid_24 : decode cX3_paid 24 = .ok (.invokevirtual 68, 3) := by decide +kernel
theorem dX3_paid_27 : decode cX3_paid 27 = .ok (.iload_n 1, 1) := by decide +kernel
theorem dX3_paid_28 : decode cX3_paid 28 = .ok (.iconst 1, 1) := by decide +kernel
theorem dX3_paid_29 : decode cX3_paid 29 = .ok (.iadd, 1) := by decide +kernel
theorem dX3_paid_30 : decode cX3_paid 30 = .ok (.istore_n 2, 1) := by decide +kernel
theorem dX3_paid_31 : decode cX3_paid 31 = .ok (.iload_n 2, 1) := by decide +kernel
theorem dX3_paid_32 : decode cX3_paid 32 = .ok (.aload_n 0, 1) := by decide +kernel
theorem dX3_paid_33 : decode cX3_paid 33 = .ok (.getfield 55, 3) := by decide +kernel
theorem dX3_paid_36 : decode cX3_paid 36 = .ok (.if_icmp .ge 32, 3) := by decide +kernel
theorem dX3_paid_39 : decode cX3_paid 39 = .ok (.aload_n 0, 1) := by decide +kernel
theorem dX3_paid_40 : decode cX3_paid 40 = .ok (.getfield 28, 3) := by decide +kernel
theorem dX3_paid_43 : decode cX3_paid 43 = .ok (.iload_n 2, 1) := by decide +kernel
theorem dX3_paid_44 : decode cX3_paid 44 = .ok (.iaload, 1) := by decide +kernel
theorem dX3_paid_45 : decode cX3_paid 45 = .ok (.iload_n 1, 1) := by decide +kernel
theorem dX3_paid_46 : decode cX3_paid 46 = .ok (.if_icmp .ne 16, 3) := by decide +kernel
theorem dX3_paid_49 : decode cX3_paid 49 = .ok (.aload_n 0, 1) := by decide +kernel
theorem dX3_paid_50 : decode cX3_paid 50 = .ok (.iload_n 2, 1) := by decide +kernel
theorem dX3_paid_51 : decode cX3_paid 51 = .ok (.invokevirtual 64, 3) := by decide +kernel
theorem dX3_paid_54 : decode cX3_paid 54 = .ok (.ifCond .ne 8, 3) := by decide +kernel
theorem dX3_paid_57 : decode cX3_paid 57 = .ok (.aload_n 0, 1) := by decide +kernel
theorem dX3_paid_58 : decode cX3_paid 58 = .ok (.iload_n 2, 1) := by decide +kernel
theorem dX3_paid_59 : decode cX3_paid 59 = .ok (.invokevirtual 79, 3) := by decide +kernel
theorem dX3_paid_62 : decode cX3_paid 62 = .ok (.iinc 2 1, 3) := by decide +kernel
theorem dX3_paid_65 : decode cX3_paid 65 = .ok (.goto (-34), 3) := by decide +kernel
theorem dX3_paid_68 : decode cX3_paid 68 = .ok (.return_, 1) := by decide +kernel
theorem dX3_fail_0 : decode cX3_fail 0 = .ok (.aload_n 0, 1) := by decide +kernel
theorem dX3_fail_1 : decode cX3_fail 1 = .ok (.getfield 25, 3) := by decide +kernel
theorem dX3_fail_4 : decode cX3_fail 4 = .ok (.iload_n 1, 1) := by decide +kernel
theorem dX3_fail_5 : decode cX3_fail 5 = .ok (.iaload, 1) := by decide +kernel
theorem dX3_fail_6 : decode cX3_fail 6 = .ok (.aload_n 0, 1) := by decide +kernel
theorem dX3_fail_7 : decode cX3_fail 7 = .ok (.getfield 31, 3) := by decide +kernel
theorem dX3_fail_10 : decode cX3_fail 10 = .ok (.iconst 2, 1) := by decide +kernel
theorem dX3_fail_11 : decode cX3_fail 11 = .ok (.aload_n 0, 1) := by decide +kernel
theorem dX3_fail_12 : decode cX3_fail 12 = .ok (.getfield 9, 3) := by decide +kernel
theorem dX3_fail_15 : decode cX3_fail 15 = .ok (.iload_n 1, 1) := by decide +kernel
theorem dX3_fail_16 : decode cX3_fail 16 = .ok (.iaload, 1) := by decide +kernel
theorem dX3_fail_17 : decode cX3_fail 17 = .ok (.iadd, 1) := by decide +kernel
theorem dX3_fail_18 : decode cX3_fail 18 = .ok (.iaload, 1) := by decide +kernel
theorem dX3_fail_19 : decode cX3_fail 19 = .ok (.invokestatic 83, 3) := by decide +kernel
theorem dX3_fail_22 : decode cX3_fail 22 = .ok (.istore_n 2, 1) := by decide +kernel
theorem dX3_fail_23 : decode cX3_fail 23 = .ok (.aload_n 0, 1) := by decide +kernel
theorem dX3_fail_24 : decode cX3_fail 24 = .ok (.aload_n 0, 1) := by decide +kernel
theorem dX3_fail_25 : decode cX3_fail 25 = .ok (.getfield 9, 3) := by decide +kernel
theorem dX3_fail_28 : decode cX3_fail 28 = .ok (.iload_n 1, 1) := by decide +kernel
theorem dX3_fail_29 : decode cX3_fail 29 = .ok (.iaload, 1) := by decide +kernel
theorem dX3_fail_30 : decode cX3_fail 30 = .ok (.aload_n 0, 1) := by decide +kernel
theorem dX3_fail_31 : decode cX3_fail 31 = .ok (.getfield 13, 3) := by decide +kernel
theorem dX3_fail_34 : decode cX3_fail 34 = .ok (.iload_n 1, 1) := by decide +kernel
theorem dX3_fail_35 : decode cX3_fail 35 = .ok (.iaload, 1) := by decide +kernel
theorem dX3_fail_36 : decode cX3_fail 36 = .ok (.iload_n 2, 1) := by decide +kernel
theorem dX3_fail_37 : decode cX3_fail 37 = .ok (.invokevirtual 75, 3) := by decide +kernel
theorem dX3_fail_40 : decode cX3_fail 40 = .ok (.aload_n 0, 1) := by decide +kernel
theorem dX3_fail_41 : decode cX3_fail 41 = .ok (.getfield 31, 3) := by decide +kernel
theorem dX3_fail_44 : decode cX3_fail 44 = .ok (.iconst 1, 1) := by decide +kernel
theorem dX3_fail_45 : decode cX3_fail 45 = .ok (.dup2, 1) := by decide +kernel
theorem dX3_fail_46 : decode cX3_fail 46 = .ok (.iaload, 1) := by decide +kernel
theorem dX3_fail_47 : decode cX3_fail 47 = .ok (.iload_n 2, 1) := by decide +kernel
theorem dX3_fail_48 : decode cX3_fail 48 = .ok (.iadd, 1) := by decide +kernel
theorem dX3_fail_49 : decode cX3_fail 49 = .ok (.iastore, 1) := by decide +kernel
theorem dX3_fail_50 : decode cX3_fail 50 = .ok (.aload_n 0, 1) := by decide +kernel
theorem dX3_fail_51 : decode cX3_fail 51 = .ok (.iload_n 1, 1) := by decide +kernel
theorem dX3_fail_52 : decode cX3_fail 52 = .ok (.iconst 4, 1) := by decide +kernel
theorem dX3_fail_53 : decode cX3_fail 53 = .ok (.invokevirtual 68, 3) := by decide +kernel
theorem dX3_fail_56 : decode cX3_fail 56 = .ok (.aload_n 0, 1) := by decide +kernel
theorem dX3_fail_57 : decode cX3_fail 57 = .ok (.iload_n 1, 1) := by decide +kernel
theorem dX3_fail_58 : decode cX3_fail 58 = .ok (.invokevirtual 89, 3) := by decide +kernel
theorem dX3_fail_61 : decode cX3_fail 61 = .ok (.pop, 1) := by decide +kernel
theorem dX3_fail_62 : decode cX3_fail 62 = .ok (.return_, 1) := by decide +kernel
theorem dX3_tick_0 : decode cX3_tick 0 = .ok (.aload_n 0, 1) := by decide +kernel
theorem dX3_tick_1 : decode cX3_tick 1 = .ok (.getfield 31, 3) := by decide +kernel
theorem dX3_tick_4 : decode cX3_tick 4 = .ok (.bipush 48, 2) := by decide +kernel
theorem dX3_tick_6 : decode cX3_tick 6 = .ok (.iload_n 1, 1) := by decide +kernel
theorem dX3_tick_7 : decode cX3_tick 7 = .ok (.iadd, 1) := by decide +kernel
theorem dX3_tick_8 : decode cX3_tick 8 = .ok (.iaload, 1) := by decide +kernel
theorem dX3_tick_9 : decode cX3_tick 9 = .ok (.ifCond .le 17, 3) := by decide +kernel
theorem dX3_tick_12 : decode cX3_tick 12 = .ok (.aload_n 0, 1) := by decide +kernel
theorem dX3_tick_13 : decode cX3_tick 13 = .ok (.getfield 31, 3) := by decide +kernel
theorem dX3_tick_16 : decode cX3_tick 16 = .ok (.bipush 48, 2) := by decide +kernel
theorem dX3_tick_18 : decode cX3_tick 18 = .ok (.iload_n 1, 1) := by decide +kernel
theorem dX3_tick_19 : decode cX3_tick 19 = .ok (.iadd, 1) := by decide +kernel
theorem dX3_tick_20 : decode cX3_tick 20 = .ok (.dup2, 1) := by decide +kernel
theorem dX3_tick_21 : decode cX3_tick 21 = .ok (.iaload, 1) := by decide +kernel
theorem dX3_tick_22 : decode cX3_tick 22 = .ok (.iconst 1, 1) := by decide +kernel
theorem dX3_tick_23 : decode cX3_tick 23 = .ok (.isub, 1) := by decide +kernel
theorem dX3_tick_24 : decode cX3_tick 24 = .ok (.iastore, 1) := by decide +kernel
theorem dX3_tick_25 : decode cX3_tick 25 = .ok (.return_, 1) := by decide +kernel
theorem dX3_tick_26 : decode cX3_tick 26 = .ok (.aload_n 0, 1) := by decide +kernel
theorem dX3_tick_27 : decode cX3_tick 27 = .ok (.getfield 31, 3) := by decide +kernel
theorem dX3_tick_30 : decode cX3_tick 30 = .ok (.bipush 28, 2) := by decide +kernel
theorem dX3_tick_32 : decode cX3_tick 32 = .ok (.iload_n 1, 1) := by decide +kernel
theorem dX3_tick_33 : decode cX3_tick 33 = .ok (.iadd, 1) := by decide +kernel
theorem dX3_tick_34 : decode cX3_tick 34 = .ok (.dup2, 1) := by decide +kernel
theorem dX3_tick_35 : decode cX3_tick 35 = .ok (.iaload, 1) := by decide +kernel
theorem dX3_tick_36 : decode cX3_tick 36 = .ok (.iconst 1, 1) := by decide +kernel
theorem dX3_tick_37 : decode cX3_tick 37 = .ok (.isub, 1) := by decide +kernel
theorem dX3_tick_38 : decode cX3_tick 38 = .ok (.iastore, 1) := by decide +kernel
theorem dX3_tick_39 : decode cX3_tick 39 = .ok (.aload_n 0, 1) := by decide +kernel
theorem dX3_tick_40 : decode cX3_tick 40 = .ok (.getfield 31, 3) := by decide +kernel
theorem dX3_tick_43 : decode cX3_tick 43 = .ok (.bipush 28, 2) := by decide +kernel
theorem dX3_tick_45 : decode cX3_tick 45 = .ok (.iload_n 1, 1) := by decide +kernel
theorem dX3_tick_46 : decode cX3_tick 46 = .ok (.iadd, 1) := by decide +kernel
theorem dX3_tick_47 : decode cX3_tick 47 = .ok (.iaload, 1) := by decide +kernel
theorem dX3_tick_48 : decode cX3_tick 48 = .ok (.ifCond .le 4, 3) := by decide +kernel
theorem dX3_tick_51 : decode cX3_tick 51 = .ok (.return_, 1) := by decide +kernel
theorem dX3_tick_52 : decode cX3_tick 52 = .ok (.aload_n 0, 1) := by decide +kernel
theorem dX3_tick_53 : decode cX3_tick 53 = .ok (.iload_n 1, 1) := by decide +kernel
theorem dX3_tick_54 : decode cX3_tick 54 = .ok (.invokevirtual 64, 3) := by decide +kernel
theorem dX3_tick_57 : decode cX3_tick 57 = .ok (.iconst 2, 1) := by decide +kernel
theorem dX3_tick_58 : decode cX3_tick 58 = .ok (.if_icmp .ne 7, 3) := by decide +kernel
theorem dX3_tick_61 : decode cX3_tick 61 = .ok (.iconst 1, 1) := by decide +kernel
theorem dX3_tick_62 : decode cX3_tick 62 = .ok (.goto 4, 3) := by decide +kernel
theorem dX3_tick_65 : decode cX3_tick 65 = .ok (.iconst 0, 1) := by decide +kernel
theorem dX3_tick_66 : decode cX3_tick 66 = .ok (.istore_n 2, 1) := by decide +kernel
theorem dX3_tick_67 : decode cX3_tick 67 = .ok (.aload_n 0, 1) := by decide +kernel
theorem dX3_tick_68 : decode cX3_tick 68 = .ok (.getfield 31, 3) := by decide +kernel
theorem dX3_tick_71 : decode cX3_tick 71 = .ok (.bipush 8, 2) := by decide +kernel
theorem dX3_tick_73 : decode cX3_tick 73 = .ok (.iload_n 1, 1) := by decide +kernel
theorem dX3_tick_74 : decode cX3_tick 74 = .ok (.iadd, 1) := by decide +kernel
theorem dX3_tick_75 : decode cX3_tick 75 = .ok (.iconst 2, 1) := by decide +kernel
theorem dX3_tick_76 : decode cX3_tick 76 = .ok (.iastore, 1) := by decide +kernel
theorem dX3_tick_77 : decode cX3_tick 77 = .ok (.aload_n 0, 1) := by decide +kernel
theorem dX3_tick_78 : decode cX3_tick 78 = .ok (.getfield 31, 3) := by decide +kernel
theorem dX3_tick_81 : decode cX3_tick 81 = .ok (.bipush 28, 2) := by decide +kernel
theorem dX3_tick_83 : decode cX3_tick 83 = .ok (.iload_n 1, 1) := by decide +kernel
theorem dX3_tick_84 : decode cX3_tick 84 = .ok (.iadd, 1) := by decide +kernel
theorem dX3_tick_85 : decode cX3_tick 85 = .ok (.aload_n 0, 1) := by decide +kernel
theorem dX3_tick_86 : decode cX3_tick 86 = .ok (.getfield 22, 3) := by decide +kernel
theorem dX3_tick_89 : decode cX3_tick 89 = .ok (.iload_n 1, 1) := by decide +kernel
theorem dX3_tick_90 : decode cX3_tick 90 = .ok (.iaload, 1) := by decide +kernel
theorem dX3_tick_91 : decode cX3_tick 91 = .ok (.iastore, 1) := by decide +kernel
theorem dX3_tick_92 : decode cX3_tick 92 = .ok (.iload_n 2, 1) := by decide +kernel
theorem dX3_tick_93 : decode cX3_tick 93 = .ok (.ifCond .ne 12, 3) := by decide +kernel
theorem dX3_tick_96 : decode cX3_tick 96 = .ok (.aload_n 0, 1) := by decide +kernel
theorem dX3_tick_97 : decode cX3_tick 97 = .ok (.getfield 22, 3) := by decide +kernel
theorem dX3_tick_100 : decode cX3_tick 100 = .ok (.iload_n 1, 1) := by decide +kernel
theorem dX3_tick_101 : decode cX3_tick 101 = .ok (.iaload, 1) := by decide +kernel
theorem dX3_tick_102 : decode cX3_tick 102 = .ok (.ifCond .ne 8, 3) := by decide +kernel
theorem dX3_tick_105 : decode cX3_tick 105 = .ok (.aload_n 0, 1) := by decide +kernel
theorem dX3_tick_106 : decode cX3_tick 106 = .ok (.iload_n 1, 1) := by decide +kernel
theorem dX3_tick_107 : decode cX3_tick 107 = .ok (.invokevirtual 92, 3) := by decide +kernel
theorem dX3_tick_110 : decode cX3_tick 110 = .ok (.return_, 1) := by decide +kernel
theorem dX3_dayOn_0 : decode cX3_dayOn 0 = .ok (.iconst 0, 1) := by decide +kernel
theorem dX3_dayOn_1 : decode cX3_dayOn 1 = .ok (.istore_n 1, 1) := by decide +kernel
theorem dX3_dayOn_2 : decode cX3_dayOn 2 = .ok (.iload_n 1, 1) := by decide +kernel
theorem dX3_dayOn_3 : decode cX3_dayOn 3 = .ok (.aload_n 0, 1) := by decide +kernel
theorem dX3_dayOn_4 : decode cX3_dayOn 4 = .ok (.getfield 55, 3) := by decide +kernel
theorem dX3_dayOn_7 : decode cX3_dayOn 7 = .ok (.if_icmp .ge 22, 3) := by decide +kernel
theorem dX3_dayOn_10 : decode cX3_dayOn 10 = .ok (.aload_n 0, 1) := by decide +kernel
theorem dX3_dayOn_11 : decode cX3_dayOn 11 = .ok (.iload_n 1, 1) := by decide +kernel
theorem dX3_dayOn_12 : decode cX3_dayOn 12 = .ok (.invokevirtual 95, 3) := by decide +kernel
theorem dX3_dayOn_15 : decode cX3_dayOn 15 = .ok (.ifCond .eq 8, 3) := by decide +kernel
theorem dX3_dayOn_18 : decode cX3_dayOn 18 = .ok (.aload_n 0, 1) := by decide +kernel
theorem dX3_dayOn_19 : decode cX3_dayOn 19 = .ok (.iload_n 1, 1) := by decide +kernel
theorem dX3_dayOn_20 : decode cX3_dayOn 20 = .ok (.invokevirtual 99, 3) := by decide +kernel
theorem dX3_dayOn_23 : decode cX3_dayOn 23 = .ok (.iinc 1 1, 3) := by decide +kernel
theorem dX3_dayOn_26 : decode cX3_dayOn 26 = .ok (.goto (-24), 3) := by decide +kernel
theorem dX3_dayOn_29 : decode cX3_dayOn 29 = .ok (.aload_n 0, 1) := by decide +kernel
theorem dX3_dayOn_30 : decode cX3_dayOn 30 = .ok (.getfield 31, 3) := by decide +kernel
theorem dX3_dayOn_33 : decode cX3_dayOn 33 = .ok (.iconst 0, 1) := by decide +kernel
theorem dX3_dayOn_34 : decode cX3_dayOn 34 = .ok (.dup2, 1) := by decide +kernel
theorem dX3_dayOn_35 : decode cX3_dayOn 35 = .ok (.iaload, 1) := by decide +kernel
theorem dX3_dayOn_36 : decode cX3_dayOn 36 = .ok (.iconst 1, 1) := by decide +kernel
theorem dX3_dayOn_37 : decode cX3_dayOn 37 = .ok (.iadd, 1) := by decide +kernel
theorem dX3_dayOn_38 : decode cX3_dayOn 38 = .ok (.iastore, 1) := by decide +kernel
theorem dX3_dayOn_39 : decode cX3_dayOn 39 = .ok (.return_, 1) := by decide +kernel
theorem dX3_daysOn_0 : decode cX3_daysOn 0 = .ok (.iconst 0, 1) := by decide +kernel
theorem dX3_daysOn_1 : decode cX3_daysOn 1 = .ok (.istore_n 2, 1) := by decide +kernel
theorem dX3_daysOn_2 : decode cX3_daysOn 2 = .ok (.iload_n 2, 1) := by decide +kernel
theorem dX3_daysOn_3 : decode cX3_daysOn 3 = .ok (.iload_n 1, 1) := by decide +kernel
theorem dX3_daysOn_4 : decode cX3_daysOn 4 = .ok (.if_icmp .ge 13, 3) := by decide +kernel
theorem dX3_daysOn_7 : decode cX3_daysOn 7 = .ok (.aload_n 0, 1) := by decide +kernel
theorem dX3_daysOn_8 : decode cX3_daysOn 8 = .ok (.invokevirtual 102, 3) := by decide +kernel
theorem dX3_daysOn_11 : decode cX3_daysOn 11 = .ok (.iinc 2 1, 3) := by decide +kernel
theorem dX3_daysOn_14 : decode cX3_daysOn 14 = .ok (.goto (-12), 3) := by decide +kernel
theorem dX3_daysOn_17 : decode cX3_daysOn 17 = .ok (.return_, 1) := by decide +kernel
theorem dX3_count_0 : decode cX3_count 0 = .ok (.iconst 0, 1) := by decide +kernel
theorem dX3_count_1 : decode cX3_count 1 = .ok (.istore_n 2, 1) := by decide +kernel
theorem dX3_count_2 : decode cX3_count 2 = .ok (.iconst 0, 1) := by decide +kernel
theorem dX3_count_3 : decode cX3_count 3 = .ok (.istore_n 3, 1) := by decide +kernel
theorem dX3_count_4 : decode cX3_count 4 = .ok (.iload_n 3, 1) := by decide +kernel
theorem dX3_count_5 : decode cX3_count 5 = .ok (.aload_n 0, 1) := by decide +kernel
theorem dX3_count_6 : decode cX3_count 6 = .ok (.getfield 55, 3) := by decide +kernel
theorem dX3_count_9 : decode cX3_count 9 = .ok (.if_icmp .ge 26, 3) := by decide +kernel
theorem dX3_count_12 : decode cX3_count 12 = .ok (.iload_n 2, 1) := by decide +kernel
theorem dX3_count_13 : decode cX3_count 13 = .ok (.aload_n 0, 1) := by decide +kernel
theorem dX3_count_14 : decode cX3_count 14 = .ok (.iload_n 3, 1) := by decide +kernel
theorem dX3_count_15 : decode cX3_count 15 = .ok (.invokevirtual 64, 3) := by decide +kernel
theorem dX3_count_18 : decode cX3_count 18 = .ok (.iload_n 1, 1) := by decide +kernel
theorem dX3_count_19 : decode cX3_count 19 = .ok (.if_icmp .ne 7, 3) := by decide +kernel
theorem dX3_count_22 : decode cX3_count 22 = .ok (.iconst 1, 1) := by decide +kernel
theorem dX3_count_23 : decode cX3_count 23 = .ok (.goto 4, 3) := by decide +kernel
theorem dX3_count_26 : decode cX3_count 26 = .ok (.iconst 0, 1) := by decide +kernel
theorem dX3_count_27 : decode cX3_count 27 = .ok (.iadd, 1) := by decide +kernel
theorem dX3_count_28 : decode cX3_count 28 = .ok (.istore_n 2, 1) := by decide +kernel
theorem dX3_count_29 : decode cX3_count 29 = .ok (.iinc 3 1, 3) := by decide +kernel
theorem dX3_count_32 : decode cX3_count 32 = .ok (.goto (-28), 3) := by decide +kernel
theorem dX3_count_35 : decode cX3_count 35 = .ok (.iload_n 2, 1) := by decide +kernel
theorem dX3_count_36 : decode cX3_count 36 = .ok (.ireturn, 1) := by decide +kernel
theorem dX3_addParty_0 : decode cX3_addParty 0 = .ok (.aload_n 0, 1) := by decide +kernel
theorem dX3_addParty_1 : decode cX3_addParty 1 = .ok (.iconst 0, 1) := by decide +kernel
theorem dX3_addParty_2 : decode cX3_addParty 2 = .ok (.putfield 44, 3) := by decide +kernel
theorem dX3_addParty_5 : decode cX3_addParty 5 = .ok (.iload_n 1, 1) := by decide +kernel
theorem dX3_addParty_6 : decode cX3_addParty 6 = .ok (.iconst 0, 1) := by decide +kernel
theorem dX3_addParty_7 : decode cX3_addParty 7 = .ok (.sipush 500, 3) := by decide +kernel
theorem dX3_addParty_10 : decode cX3_addParty 10 = .ok (.invokestatic 51, 3) := by decide +kernel
theorem dX3_addParty_13 : decode cX3_addParty 13 = .ok (.ifCond .ne 9, 3) := by decide +kernel
theorem dX3_addParty_16 : decode cX3_addParty 16 = .ok (.aload_n 0, 1) := by decide +kernel
theorem dX3_addParty_17 : decode cX3_addParty 17 = .ok (.iconst 1, 1) := by decide +kernel
theorem dX3_addParty_18 : decode cX3_addParty 18 = .ok (.invokevirtual 105, 3) := by decide +kernel
theorem dX3_addParty_21 : decode cX3_addParty 21 = .ok (.ireturn, 1) := by decide +kernel
theorem dX3_addParty_22 : decode cX3_addParty 22 = .ok (.aload_n 0, 1) := by decide +kernel
theorem dX3_addParty_23 : decode cX3_addParty 23 = .ok (.getfield 48, 3) := by decide +kernel
theorem dX3_addParty_26 : decode cX3_addParty 26 = .ok (.bipush 6, 2) := by decide +kernel
theorem dX3_addParty_28 : decode cX3_addParty 28 = .ok (.if_icmp .ne 9, 3) := by decide +kernel
theorem dX3_addParty_31 : decode cX3_addParty 31 = .ok (.aload_n 0, 1) := by decide +kernel
theorem dX3_addParty_32 : decode cX3_addParty 32 = .ok (.iconst 2, 1) := by decide +kernel
theorem dX3_addParty_33 : decode cX3_addParty 33 = .ok (.invokevirtual 105, 3) := by decide +kernel
theorem dX3_addParty_36 : decode cX3_addParty 36 = .ok (.ireturn, 1) := by decide +kernel
theorem dX3_addParty_37 : decode cX3_addParty 37 = .ok (.aload_n 0, 1) := by decide +kernel
theorem dX3_addParty_38 : decode cX3_addParty 38 = .ok (.getfield 31, 3) := by decide +kernel
theorem dX3_addParty_41 : decode cX3_addParty 41 = .ok (.iconst 2, 1) := by decide +kernel
theorem dX3_addParty_42 : decode cX3_addParty 42 = .ok (.aload_n 0, 1) := by decide +kernel
theorem dX3_addParty_43 : decode cX3_addParty 43 = .ok (.getfield 48, 3) := by decide +kernel
theorem dX3_addParty_46 : decode cX3_addParty 46 = .ok (.iadd, 1) := by decide +kernel
theorem dX3_addParty_47 : decode cX3_addParty 47 = .ok (.iload_n 1, 1) := by decide +kernel
theorem dX3_addParty_48 : decode cX3_addParty 48 = .ok (.iastore, 1) := by decide +kernel
theorem dX3_addParty_49 : decode cX3_addParty 49 = .ok (.aload_n 0, 1) := by decide +kernel
theorem dX3_addParty_50 : decode cX3_addParty 50 = .ok (.dup, 1) := by decide +kernel
theorem dX3_addParty_51 : decode cX3_addParty 51 = .ok (.getfield 48, 3) := by decide +kernel
theorem dX3_addParty_54 : decode cX3_addParty 54 = .ok (.iconst 1, 1) := by decide +kernel
theorem dX3_addParty_55 : decode cX3_addParty 55 = .ok (.iadd, 1) := by decide +kernel
theorem dX3_addParty_56 : decode cX3_addParty 56 = .ok (.putfield 48, 3) := by decide +kernel
theorem dX3_addParty_59 : decode cX3_addParty 59 = .ok (.aload_n 0, 1) := by decide +kernel
theorem dX3_addParty_60 : decode cX3_addParty 60 = .ok (.getfield 48, 3) := by decide +kernel
theorem dX3_addParty_63 : decode cX3_addParty 63 = .ok (.iconst 1, 1) := by decide +kernel
theorem dX3_addParty_64 : decode cX3_addParty 64 = .ok (.isub, 1) := by decide +kernel
theorem dX3_addParty_65 : decode cX3_addParty 65 = .ok (.ireturn, 1) := by decide +kernel
theorem dX3_addDuty_0 : decode cX3_addDuty 0 = .ok (.aload_n 0, 1) := by decide +kernel
theorem dX3_addDuty_1 : decode cX3_addDuty 1 = .ok (.iconst 0, 1) := by decide +kernel
theorem dX3_addDuty_2 : decode cX3_addDuty 2 = .ok (.putfield 44, 3) := by decide +kernel
theorem dX3_addDuty_5 : decode cX3_addDuty 5 = .ok (.aload_n 0, 1) := by decide +kernel
theorem dX3_addDuty_6 : decode cX3_addDuty 6 = .ok (.iload_n 1, 1) := by decide +kernel
theorem dX3_addDuty_7 : decode cX3_addDuty 7 = .ok (.invokevirtual 108, 3) := by decide +kernel
theorem dX3_addDuty_10 : decode cX3_addDuty 10 = .ok (.ifCond .eq 26, 3) := by decide +kernel
theorem dX3_addDuty_13 : decode cX3_addDuty 13 = .ok (.aload_n 0, 1) := by decide +kernel
theorem dX3_addDuty_14 : decode cX3_addDuty 14 = .ok (.iload_n 2, 1) := by decide +kernel
theorem dX3_addDuty_15 : decode cX3_addDuty 15 = .ok (.invokevirtual 108, 3) := by decide +kernel
theorem dX3_addDuty_18 : decode cX3_addDuty 18 = .ok (.ifCond .eq 18, 3) := by decide +kernel
theorem dX3_addDuty_21 : decode cX3_addDuty 21 = .ok (.iload 7, 2) := by decide +kernel
theorem dX3_addDuty_23 : decode cX3_addDuty 23 = .ok (.iconst (-1), 1) := by decide +kernel
theorem dX3_addDuty_24 : decode cX3_addDuty 24 = .ok (.if_icmp .eq 18, 3) := by decide +kernel
theorem dX3_addDuty_27 : decode cX3_addDuty 27 = .ok (.aload_n 0, 1) := by decide +kernel
theorem dX3_addDuty_28 : decode cX3_addDuty 28 = .ok (.iload 7, 2) := by decide +kernel
theorem dX3_addDuty_30 : decode cX3_addDuty 30 = .ok (.invokevirtual 111, 3) := by decide +kernel
theorem dX3_addDuty_33 : decode cX3_addDuty 33 = .ok (.ifCond .ne 9, 3) := by decide +kernel
theorem dX3_addDuty_36 : decode cX3_addDuty 36 = .ok (.aload_n 0, 1) := by decide +kernel
theorem dX3_addDuty_37 : decode cX3_addDuty 37 = .ok (.iconst 1, 1) := by decide +kernel
theorem dX3_addDuty_38 : decode cX3_addDuty 38 = .ok (.invokevirtual 105, 3) := by decide +kernel
theorem dX3_addDuty_41 : decode cX3_addDuty 41 = .ok (.ireturn, 1) := by decide +kernel
theorem dX3_addDuty_42 : decode cX3_addDuty 42 = .ok (.iload_n 1, 1) := by decide +kernel
theorem dX3_addDuty_43 : decode cX3_addDuty 43 = .ok (.iload_n 2, 1) := by decide +kernel
theorem dX3_addDuty_44 : decode cX3_addDuty 44 = .ok (.if_icmp .eq 46, 3) := by decide +kernel
theorem dX3_addDuty_47 : decode cX3_addDuty 47 = .ok (.iload_n 3, 1) := by decide +kernel
theorem dX3_addDuty_48 : decode cX3_addDuty 48 = .ok (.iconst 1, 1) := by decide +kernel
theorem dX3_addDuty_49 : decode cX3_addDuty 49 = .ok (.bipush 50, 2) := by decide +kernel
theorem dX3_addDuty_51 : decode cX3_addDuty 51 = .ok (.invokestatic 51, 3) := by decide +kernel
theorem dX3_addDuty_54 : decode cX3_addDuty 54 = .ok (.ifCond .eq 36, 3) := by decide +kernel
theorem dX3_addDuty_57 : decode cX3_addDuty 57 = .ok (.iload 4, 2) := by decide +kernel
theorem dX3_addDuty_59 : decode cX3_addDuty 59 = .ok (.iconst 1, 1) := by decide +kernel
theorem dX3_addDuty_60 : decode cX3_addDuty 60 = .ok (.bipush 30, 2) := by decide +kernel
theorem dX3_addDuty_62 : decode cX3_addDuty 62 = .ok (.invokestatic 51, 3) := by decide +kernel
theorem dX3_addDuty_65 : decode cX3_addDuty 65 = .ok (.ifCond .eq 25, 3) := by decide +kernel
theorem dX3_addDuty_68 : decode cX3_addDuty 68 = .ok (.iload 5, 2) := by decide +kernel
theorem dX3_addDuty_70 : decode cX3_addDuty 70 = .ok (.iconst 0, 1) := by decide +kernel
theorem dX3_addDuty_71 : decode cX3_addDuty 71 = .ok (.bipush 10, 2) := by decide +kernel
theorem dX3_addDuty_73 : decode cX3_addDuty 73 = .ok (.invokestatic 51, 3) := by decide +kernel
theorem dX3_addDuty_76 : decode cX3_addDuty 76 = .ok (.ifCond .eq 14, 3) := by decide +kernel
theorem dX3_addDuty_79 : decode cX3_addDuty 79 = .ok (.iload 6, 2) := by decide +kernel
theorem dX3_addDuty_81 : decode cX3_addDuty 81 = .ok (.iconst 0, 1) := by decide +kernel
theorem dX3_addDuty_82 : decode cX3_addDuty 82 = .ok (.bipush 20, 2) := by decide +kernel
theorem dX3_addDuty_84 : decode cX3_addDuty 84 = .ok (.invokestatic 51, 3) := by decide +kernel
theorem dX3_addDuty_87 : decode cX3_addDuty 87 = .ok (.ifCond .ne 9, 3) := by decide +kernel
theorem dX3_addDuty_90 : decode cX3_addDuty 90 = .ok (.aload_n 0, 1) := by decide +kernel
theorem dX3_addDuty_91 : decode cX3_addDuty 91 = .ok (.iconst 2, 1) := by decide +kernel
theorem dX3_addDuty_92 : decode cX3_addDuty 92 = .ok (.invokevirtual 105, 3) := by decide +kernel
theorem dX3_addDuty_95 : decode cX3_addDuty 95 = .ok (.ireturn, 1) := by decide +kernel
theorem dX3_addDuty_96 : decode cX3_addDuty 96 = .ok (.aload_n 0, 1) := by decide +kernel
theorem dX3_addDuty_97 : decode cX3_addDuty 97 = .ok (.getfield 55, 3) := by decide +kernel
theorem dX3_addDuty_100 : decode cX3_addDuty 100 = .ok (.bipush 20, 2) := by decide +kernel
theorem dX3_addDuty_102 : decode cX3_addDuty 102 = .ok (.if_icmp .eq 19, 3) := by decide +kernel
theorem dX3_addDuty_105 : decode cX3_addDuty 105 = .ok (.iload 7, 2) := by decide +kernel
theorem dX3_addDuty_107 : decode cX3_addDuty 107 = .ok (.iconst (-1), 1) := by decide +kernel
theorem dX3_addDuty_108 : decode cX3_addDuty 108 = .ok (.if_icmp .eq 19, 3) := by decide +kernel
theorem dX3_addDuty_111 : decode cX3_addDuty 111 = .ok (.aload_n 0, 1) := by decide +kernel
theorem dX3_addDuty_112 : decode cX3_addDuty 112 = .ok (.iload 7, 2) := by decide +kernel
theorem dX3_addDuty_114 : decode cX3_addDuty 114 = .ok (.invokevirtual 64, 3) := by decide +kernel
theorem dX3_addDuty_117 : decode cX3_addDuty 117 = .ok (.iconst 3, 1) := by decide +kernel
theorem dX3_addDuty_118 : decode cX3_addDuty 118 = .ok (.if_icmp .le 9, 3) := by decide +kernel
theorem dX3_addDuty_121 : decode cX3_addDuty 121 = .ok (.aload_n 0, 1) := by decide +kernel
theorem dX3_addDuty_122 : decode cX3_addDuty 122 = .ok (.iconst 3, 1) := by decide +kernel
theorem dX3_addDuty_123 : decode cX3_addDuty 123 = .ok (.invokevirtual 105, 3) := by decide +kernel
theorem dX3_addDuty_126 : decode cX3_addDuty 126 = .ok (.ireturn, 1) := by decide +kernel
theorem dX3_addDuty_127 : decode cX3_addDuty 127 = .ok (.aload_n 0, 1) := by decide +kernel
theorem dX3_addDuty_128 : decode cX3_addDuty 128 = .ok (.getfield 55, 3) := by decide +kernel
theorem dX3_addDuty_131 : decode cX3_addDuty 131 = .ok (.istore 8, 2) := by decide +kernel
theorem dX3_addDuty_133 : decode cX3_addDuty 133 = .ok (.aload_n 0, 1) := by decide +kernel
theorem dX3_addDuty_134 : decode cX3_addDuty 134 = .ok (.dup, 1) := by decide +kernel
theorem dX3_addDuty_135 : decode cX3_addDuty 135 = .ok (.getfield 55, 3) := by decide +kernel
theorem dX3_addDuty_138 : decode cX3_addDuty 138 = .ok (.iconst 1, 1) := by decide +kernel
theorem dX3_addDuty_139 : decode cX3_addDuty 139 = .ok (.iadd, 1) := by decide +kernel
theorem dX3_addDuty_140 : decode cX3_addDuty 140 = .ok (.putfield 55, 3) := by decide +kernel
theorem dX3_addDuty_143 : decode cX3_addDuty 143 = .ok (.aload_n 0, 1) := by decide +kernel
theorem dX3_addDuty_144 : decode cX3_addDuty 144 = .ok (.getfield 9, 3) := by decide +kernel
theorem dX3_addDuty_147 : decode cX3_addDuty 147 = .ok (.iload 8, 2) := by decide +kernel
theorem dX3_addDuty_149 : decode cX3_addDuty 149 = .ok (.iload_n 1, 1) := by decide +kernel
theorem dX3_addDuty_150 : decode cX3_addDuty 150 = .ok (.iastore, 1) := by decide +kernel
theorem dX3_addDuty_151 : decode cX3_addDuty 151 = .ok (.aload_n 0, 1) := by decide +kernel
theorem dX3_addDuty_152 : decode cX3_addDuty 152 = .ok (.getfield 13, 3) := by decide +kernel
theorem dX3_addDuty_155 : decode cX3_addDuty 155 = .ok (.iload 8, 2) := by decide +kernel
theorem dX3_addDuty_157 : decode cX3_addDuty 157 = .ok (.iload_n 2, 1) := by decide +kernel
theorem dX3_addDuty_158 : decode cX3_addDuty 158 = .ok (.iastore, 1) := by decide +kernel
theorem dX3_addDuty_159 : decode cX3_addDuty 159 = .ok (.aload_n 0, 1) := by decide +kernel
theorem dX3_addDuty_160 : decode cX3_addDuty 160 = .ok (.getfield 16, 3) := by decide +kernel
theorem dX3_addDuty_163 : decode cX3_addDuty 163 = .ok (.iload 8, 2) := by decide +kernel
theorem dX3_addDuty_165 : decode cX3_addDuty 165 = .ok (.iload_n 3, 1) := by decide +kernel
theorem dX3_addDuty_166 : decode cX3_addDuty 166 = .ok (.iastore, 1) := by decide +kernel
theorem dX3_addDuty_167 : decode cX3_addDuty 167 = .ok (.aload_n 0, 1) := by decide +kernel
theorem dX3_addDuty_168 : decode cX3_addDuty 168 = .ok (.getfield 19, 3) := by decide +kernel
theorem dX3_addDuty_171 : decode cX3_addDuty 171 = .ok (.iload 8, 2) := by decide +kernel
theorem dX3_addDuty_173 : decode cX3_addDuty 173 = .ok (.iload 4, 2) := by decide +kernel
theorem dX3_addDuty_175 : decode cX3_addDuty 175 = .ok (.iastore, 1) := by decide +kernel
theorem dX3_addDuty_176 : decode cX3_addDuty 176 = .ok (.aload_n 0, 1) := by decide +kernel
theorem dX3_addDuty_177 : decode cX3_addDuty 177 = .ok (.getfield 22, 3) := by decide +kernel
theorem dX3_addDuty_180 : decode cX3_addDuty 180 = .ok (.iload 8, 2) := by decide +kernel
theorem dX3_addDuty_182 : decode cX3_addDuty 182 = .ok (.iload 5, 2) := by decide +kernel
theorem dX3_addDuty_184 : decode cX3_addDuty 184 = .ok (.iastore, 1) := by decide +kernel
theorem dX3_addDuty_185 : decode cX3_addDuty 185 = .ok (.aload_n 0, 1) := by decide +kernel
theorem dX3_addDuty_186 : decode cX3_addDuty 186 = .ok (.getfield 25, 3) := by decide +kernel
theorem dX3_addDuty_189 : decode cX3_addDuty 189 = .ok (.iload 8, 2) := by decide +kernel
theorem dX3_addDuty_191 : decode cX3_addDuty 191 = .ok (.iload 6, 2) := by decide +kernel
theorem dX3_addDuty_193 : decode cX3_addDuty 193 = .ok (.iastore, 1) := by decide +kernel
theorem dX3_addDuty_194 : decode cX3_addDuty 194 = .ok (.aload_n 0, 1) := by decide +kernel
theorem dX3_addDuty_195 : decode cX3_addDuty 195 = .ok (.getfield 28, 3) := by decide +kernel
theorem dX3_addDuty_198 : decode cX3_addDuty 198 = .ok (.iload 8, 2) := by decide +kernel
theorem dX3_addDuty_200 : decode cX3_addDuty 200 = .ok (.iload 7, 2) := by decide +kernel
theorem dX3_addDuty_202 : decode cX3_addDuty 202 = .ok (.iastore, 1) := by decide +kernel
theorem dX3_addDuty_203 : decode cX3_addDuty 203 = .ok (.iload 7, 2) := by decide +kernel
theorem dX3_addDuty_205 : decode cX3_addDuty 205 = .ok (.iconst (-1), 1) := by decide +kernel
theorem dX3_addDuty_206 : decode cX3_addDuty 206 = .ok (.if_icmp .eq 23, 3) := by decide +kernel
theorem dX3_addDuty_209 : decode cX3_addDuty 209 = .ok (.aload_n 0, 1) := by decide +kernel
theorem dX3_addDuty_210 : decode cX3_addDuty 210 = .ok (.iload 7, 2) := by decide +kernel
theorem dX3_addDuty_212 : decode cX3_addDuty 212 = .ok (.invokevirtual 64, 3) := by decide +kernel
theorem dX3_addDuty_215 : decode cX3_addDuty 215 = .ok (.iconst 3, 1) := by decide +kernel
theorem dX3_addDuty_216 : decode cX3_addDuty 216 = .ok (.if_icmp .ge 13, 3) := by decide +kernel
theorem dX3_addDuty_219 : decode cX3_addDuty 219 = .ok (.aload_n 0, 1) := by decide +kernel
theorem dX3_addDuty_220 : decode cX3_addDuty 220 = .ok (.iload 8, 2) := by decide +kernel
theorem dX3_addDuty_222 : decode cX3_addDuty 222 = .ok (.iconst 0, 1) := by decide +kernel
theorem dX3_addDuty_223 : decode cX3_addDuty 223 = .ok (.invokevirtual 68, 3) := by decide +kernel
theorem dX3_addDuty_226 : decode cX3_addDuty 226 = .ok (.goto 9, 3) := by decide +kernel
theorem dX3_addDuty_229 : decode cX3_addDuty 229 = .ok (.aload_n 0, 1) := by decide +kernel
theorem dX3_addDuty_230 : decode cX3_addDuty 230 = .ok (.iload 8, 2) := by decide +kernel
theorem dX3_addDuty_232 : decode cX3_addDuty 232 = .ok (.invokevirtual 79, 3) := by decide +kernel
theorem dX3_addDuty_235 : decode cX3_addDuty 235 = .ok (.iload 8, 2) := by decide +kernel
theorem dX3_addDuty_237 : decode cX3_addDuty 237 = .ok (.ireturn, 1) := by decide +kernel
theorem dX3_canPay_0 : decode cX3_canPay 0 = .ok (.aload_n 0, 1) := by decide +kernel
theorem dX3_canPay_1 : decode cX3_canPay 1 = .ok (.iload_n 1, 1) := by decide +kernel
theorem dX3_canPay_2 : decode cX3_canPay 2 = .ok (.invokevirtual 95, 3) := by decide +kernel
theorem dX3_canPay_5 : decode cX3_canPay 5 = .ok (.ifCond .eq 28, 3) := by decide +kernel
theorem dX3_canPay_8 : decode cX3_canPay 8 = .ok (.aload_n 0, 1) := by decide +kernel
theorem dX3_canPay_9 : decode cX3_canPay 9 = .ok (.getfield 31, 3) := by decide +kernel
theorem dX3_canPay_12 : decode cX3_canPay 12 = .ok (.iconst 2, 1) := by decide +kernel
theorem dX3_canPay_13 : decode cX3_canPay 13 = .ok (.aload_n 0, 1) := by decide +kernel
theorem dX3_canPay_14 : decode cX3_canPay 14 = .ok (.getfield 9, 3) := by decide +kernel
theorem dX3_canPay_17 : decode cX3_canPay 17 = .ok (.iload_n 1, 1) := by decide +kernel
theorem dX3_canPay_18 : decode cX3_canPay 18 = .ok (.iaload, 1) := by decide +kernel
theorem dX3_canPay_19 : decode cX3_canPay 19 = .ok (.iadd, 1) := by decide +kernel
theorem dX3_canPay_20 : decode cX3_canPay 20 = .ok (.iaload, 1) := by decide +kernel
theorem dX3_canPay_21 : decode cX3_canPay 21 = .ok (.aload_n 0, 1) := by decide +kernel
theorem dX3_canPay_22 : decode cX3_canPay 22 = .ok (.iload_n 1, 1) := by decide +kernel
theorem dX3_canPay_23 : decode cX3_canPay 23 = .ok (.invokevirtual 72, 3) := by decide +kernel
theorem dX3_canPay_26 : decode cX3_canPay 26 = .ok (.if_icmp .lt 7, 3) := by decide +kernel
theorem dX3_canPay_29 : decode cX3_canPay 29 = .ok (.iconst 1, 1) := by decide +kernel
theorem dX3_canPay_30 : decode cX3_canPay 30 = .ok (.goto 4, 3) := by decide +kernel
theorem dX3_canPay_33 : decode cX3_canPay 33 = .ok (.iconst 0, 1) := by decide +kernel
theorem dX3_canPay_34 : decode cX3_canPay 34 = .ok (.ireturn, 1) := by decide +kernel
theorem dX3_pay_0 : decode cX3_pay 0 = .ok (.aload_n 0, 1) := by decide +kernel
theorem dX3_pay_1 : decode cX3_pay 1 = .ok (.iconst 0, 1) := by decide +kernel
theorem dX3_pay_2 : decode cX3_pay 2 = .ok (.putfield 44, 3) := by decide +kernel
theorem dX3_pay_5 : decode cX3_pay 5 = .ok (.aload_n 0, 1) := by decide +kernel
theorem dX3_pay_6 : decode cX3_pay 6 = .ok (.iload_n 1, 1) := by decide +kernel
theorem dX3_pay_7 : decode cX3_pay 7 = .ok (.invokevirtual 111, 3) := by decide +kernel
theorem dX3_pay_10 : decode cX3_pay 10 = .ok (.ifCond .ne 9, 3) := by decide +kernel
theorem dX3_pay_13 : decode cX3_pay 13 = .ok (.aload_n 0, 1) := by decide +kernel
theorem dX3_pay_14 : decode cX3_pay 14 = .ok (.iconst 1, 1) := by decide +kernel
theorem dX3_pay_15 : decode cX3_pay 15 = .ok (.invokevirtual 105, 3) := by decide +kernel
theorem dX3_pay_18 : decode cX3_pay 18 = .ok (.ireturn, 1) := by decide +kernel
theorem dX3_pay_19 : decode cX3_pay 19 = .ok (.aload_n 0, 1) := by decide +kernel
theorem dX3_pay_20 : decode cX3_pay 20 = .ok (.iload_n 1, 1) := by decide +kernel
theorem dX3_pay_21 : decode cX3_pay 21 = .ok (.invokevirtual 114, 3) := by decide +kernel
theorem dX3_pay_24 : decode cX3_pay 24 = .ok (.ifCond .ne 9, 3) := by decide +kernel
theorem dX3_pay_27 : decode cX3_pay 27 = .ok (.aload_n 0, 1) := by decide +kernel
theorem dX3_pay_28 : decode cX3_pay 28 = .ok (.iconst 2, 1) := by decide +kernel
theorem dX3_pay_29 : decode cX3_pay 29 = .ok (.invokevirtual 105, 3) := by decide +kernel
theorem dX3_pay_32 : decode cX3_pay 32 = .ok (.ireturn, 1) := by decide +kernel
theorem dX3_pay_33 : decode cX3_pay 33 = .ok (.aload_n 0, 1) := by decide +kernel
theorem dX3_pay_34 : decode cX3_pay 34 = .ok (.iload_n 1, 1) := by decide +kernel
theorem dX3_pay_35 : decode cX3_pay 35 = .ok (.invokevirtual 72, 3) := by decide +kernel
theorem dX3_pay_38 : decode cX3_pay 38 = .ok (.istore_n 2, 1) := by decide +kernel
theorem dX3_pay_39 : decode cX3_pay 39 = .ok (.aload_n 0, 1) := by decide +kernel
theorem dX3_pay_40 : decode cX3_pay 40 = .ok (.iload_n 1, 1) := by decide +kernel
theorem dX3_pay_41 : decode cX3_pay 41 = .ok (.invokevirtual 117, 3) := by decide +kernel
theorem dX3_pay_44 : decode cX3_pay 44 = .ok (.iload_n 2, 1) := by decide +kernel
theorem dX3_pay_45 : decode cX3_pay 45 = .ok (.ireturn, 1) := by decide +kernel
theorem dX3_release_0 : decode cX3_release 0 = .ok (.aload_n 0, 1) := by decide +kernel
theorem dX3_release_1 : decode cX3_release 1 = .ok (.iconst 0, 1) := by decide +kernel
theorem dX3_release_2 : decode cX3_release 2 = .ok (.putfield 44, 3) := by decide +kernel
theorem dX3_release_5 : decode cX3_release 5 = .ok (.aload_n 0, 1) := by decide +kernel
theorem dX3_release_6 : decode cX3_release 6 = .ok (.iload_n 1, 1) := by decide +kernel
theorem dX3_release_7 : decode cX3_release 7 = .ok (.invokevirtual 111, 3) := by decide +kernel
theorem dX3_release_10 : decode cX3_release 10 = .ok (.ifCond .ne 9, 3) := by decide +kernel
theorem dX3_release_13 : decode cX3_release 13 = .ok (.aload_n 0, 1) := by decide +kernel
theorem dX3_release_14 : decode cX3_release 14 = .ok (.iconst 1, 1) := by decide +kernel
theorem dX3_release_15 : decode cX3_release 15 = .ok (.invokevirtual 105, 3) := by decide +kernel
theorem dX3_release_18 : decode cX3_release 18 = .ok (.ireturn, 1) := by decide +kernel
theorem dX3_release_19 : decode cX3_release 19 = .ok (.aload_n 0, 1) := by decide +kernel
theorem dX3_release_20 : decode cX3_release 20 = .ok (.iload_n 1, 1) := by decide +kernel
theorem dX3_release_21 : decode cX3_release 21 = .ok (.invokevirtual 64, 3) := by decide +kernel
theorem dX3_release_24 : decode cX3_release 24 = .ok (.iconst 2, 1) := by decide +kernel
theorem dX3_release_25 : decode cX3_release 25 = .ok (.if_icmp .le 9, 3) := by decide +kernel
theorem dX3_release_28 : decode cX3_release 28 = .ok (.aload_n 0, 1) := by decide +kernel
theorem dX3_release_29 : decode cX3_release 29 = .ok (.iconst 2, 1) := by decide +kernel
theorem dX3_release_30 : decode cX3_release 30 = .ok (.invokevirtual 105, 3) := by decide +kernel
theorem dX3_release_33 : decode cX3_release 33 = .ok (.ireturn, 1) := by decide +kernel
theorem dX3_release_34 : decode cX3_release 34 = .ok (.aload_n 0, 1) := by decide +kernel
theorem dX3_release_35 : decode cX3_release 35 = .ok (.iload_n 1, 1) := by decide +kernel
theorem dX3_release_36 : decode cX3_release 36 = .ok (.iconst 5, 1) := by decide +kernel
theorem dX3_release_37 : decode cX3_release 37 = .ok (.invokevirtual 68, 3) := by decide +kernel
theorem dX3_release_40 : decode cX3_release 40 = .ok (.iconst 1, 1) := by decide +kernel
theorem dX3_release_41 : decode cX3_release 41 = .ok (.aload_n 0, 1) := by decide +kernel
theorem dX3_release_42 : decode cX3_release 42 = .ok (.iload_n 1, 1) := by decide +kernel
theorem dX3_release_43 : decode cX3_release 43 = .ok (.invokevirtual 89, 3) := by decide +kernel
theorem dX3_release_46 : decode cX3_release 46 = .ok (.iadd, 1) := by decide +kernel
theorem dX3_release_47 : decode cX3_release 47 = .ok (.ireturn, 1) := by decide +kernel
theorem dX3_stop_0 : decode cX3_stop 0 = .ok (.aload_n 0, 1) := by decide +kernel
theorem dX3_stop_1 : decode cX3_stop 1 = .ok (.iconst 0, 1) := by decide +kernel
theorem dX3_stop_2 : decode cX3_stop 2 = .ok (.putfield 44, 3) := by decide +kernel
theorem dX3_stop_5 : decode cX3_stop 5 = .ok (.aload_n 0, 1) := by decide +kernel
theorem dX3_stop_6 : decode cX3_stop 6 = .ok (.iload_n 1, 1) := by decide +kernel
theorem dX3_stop_7 : decode cX3_stop 7 = .ok (.invokevirtual 111, 3) := by decide +kernel
theorem dX3_stop_10 : decode cX3_stop 10 = .ok (.ifCond .ne 9, 3) := by decide +kernel
theorem dX3_stop_13 : decode cX3_stop 13 = .ok (.aload_n 0, 1) := by decide +kernel
theorem dX3_stop_14 : decode cX3_stop 14 = .ok (.iconst 1, 1) := by decide +kernel
theorem dX3_stop_15 : decode cX3_stop 15 = .ok (.invokevirtual 105, 3) := by decide +kernel
theorem dX3_stop_18 : decode cX3_stop 18 = .ok (.ireturn, 1) := by decide +kernel
theorem dX3_stop_19 : decode cX3_stop 19 = .ok (.iload_n 2, 1) := by decide +kernel
theorem dX3_stop_20 : decode cX3_stop 20 = .ok (.iconst 0, 1) := by decide +kernel
theorem dX3_stop_21 : decode cX3_stop 21 = .ok (.bipush 20, 2) := by decide +kernel
theorem dX3_stop_23 : decode cX3_stop 23 = .ok (.invokestatic 51, 3) := by decide +kernel
theorem dX3_stop_26 : decode cX3_stop 26 = .ok (.ifCond .ne 9, 3) := by decide +kernel
theorem dX3_stop_29 : decode cX3_stop 29 = .ok (.aload_n 0, 1) := by decide +kernel
theorem dX3_stop_30 : decode cX3_stop 30 = .ok (.iconst 2, 1) := by decide +kernel
theorem dX3_stop_31 : decode cX3_stop 31 = .ok (.invokevirtual 105, 3) := by decide +kernel
theorem dX3_stop_34 : decode cX3_stop 34 = .ok (.ireturn, 1) := by decide +kernel
theorem dX3_stop_35 : decode cX3_stop 35 = .ok (.aload_n 0, 1) := by decide +kernel
theorem dX3_stop_36 : decode cX3_stop 36 = .ok (.iload_n 1, 1) := by decide +kernel
theorem dX3_stop_37 : decode cX3_stop 37 = .ok (.invokevirtual 95, 3) := by decide +kernel
theorem dX3_stop_40 : decode cX3_stop 40 = .ok (.ifCond .ne 9, 3) := by decide +kernel
theorem dX3_stop_43 : decode cX3_stop 43 = .ok (.aload_n 0, 1) := by decide +kernel
theorem dX3_stop_44 : decode cX3_stop 44 = .ok (.iconst 3, 1) := by decide +kernel
theorem dX3_stop_45 : decode cX3_stop 45 = .ok (.invokevirtual 105, 3) := by decide +kernel
theorem dX3_stop_48 : decode cX3_stop 48 = .ok (.ireturn, 1) := by decide +kernel
theorem dX3_stop_49 : decode cX3_stop 49 = .ok (.aload_n 0, 1) := by decide +kernel
theorem dX3_stop_50 : decode cX3_stop 50 = .ok (.getfield 31, 3) := by decide +kernel
theorem dX3_stop_53 : decode cX3_stop 53 = .ok (.bipush 48, 2) := by decide +kernel
theorem dX3_stop_55 : decode cX3_stop 55 = .ok (.iload_n 1, 1) := by decide +kernel
theorem dX3_stop_56 : decode cX3_stop 56 = .ok (.iadd, 1) := by decide +kernel
theorem dX3_stop_57 : decode cX3_stop 57 = .ok (.iaload, 1) := by decide +kernel
theorem dX3_stop_58 : decode cX3_stop 58 = .ok (.istore_n 3, 1) := by decide +kernel
theorem dX3_stop_59 : decode cX3_stop 59 = .ok (.aload_n 0, 1) := by decide +kernel
theorem dX3_stop_60 : decode cX3_stop 60 = .ok (.getfield 31, 3) := by decide +kernel
theorem dX3_stop_63 : decode cX3_stop 63 = .ok (.bipush 48, 2) := by decide +kernel
theorem dX3_stop_65 : decode cX3_stop 65 = .ok (.iload_n 1, 1) := by decide +kernel
theorem dX3_stop_66 : decode cX3_stop 66 = .ok (.iadd, 1) := by decide +kernel
theorem dX3_stop_67 : decode cX3_stop 67 = .ok (.iload_n 2, 1) := by decide +kernel
theorem dX3_stop_68 : decode cX3_stop 68 = .ok (.iastore, 1) := by decide +kernel
theorem dX3_stop_69 : decode cX3_stop 69 = .ok (.iload_n 3, 1) := by decide +kernel
theorem dX3_stop_70 : decode cX3_stop 70 = .ok (.ireturn, 1) := by decide +kernel
theorem dX3_give_0 : decode cX3_give 0 = .ok (.aload_n 0, 1) := by decide +kernel
theorem dX3_give_1 : decode cX3_give 1 = .ok (.iconst 0, 1) := by decide +kernel
theorem dX3_give_2 : decode cX3_give 2 = .ok (.putfield 44, 3) := by decide +kernel
theorem dX3_give_5 : decode cX3_give 5 = .ok (.aload_n 0, 1) := by decide +kernel
theorem dX3_give_6 : decode cX3_give 6 = .ok (.iload_n 1, 1) := by decide +kernel
theorem dX3_give_7 : decode cX3_give 7 = .ok (.invokevirtual 108, 3) := by decide +kernel
theorem dX3_give_10 : decode cX3_give 10 = .ok (.ifCond .ne 9, 3) := by decide +kernel
theorem dX3_give_13 : decode cX3_give 13 = .ok (.aload_n 0, 1) := by decide +kernel
theorem dX3_give_14 : decode cX3_give 14 = .ok (.iconst 1, 1) := by decide +kernel
theorem dX3_give_15 : decode cX3_give 15 = .ok (.invokevirtual 105, 3) := by decide +kernel
theorem dX3_give_18 : decode cX3_give 18 = .ok (.ireturn, 1) := by decide +kernel
theorem dX3_give_19 : decode cX3_give 19 = .ok (.iload_n 2, 1) := by decide +kernel
theorem dX3_give_20 : decode cX3_give 20 = .ok (.iconst 1, 1) := by decide +kernel
theorem dX3_give_21 : decode cX3_give 21 = .ok (.sipush 500, 3) := by decide +kernel
theorem dX3_give_24 : decode cX3_give 24 = .ok (.invokestatic 51, 3) := by decide +kernel
theorem dX3_give_27 : decode cX3_give 27 = .ok (.ifCond .ne 9, 3) := by decide +kernel
theorem dX3_give_30 : decode cX3_give 30 = .ok (.aload_n 0, 1) := by decide +kernel
theorem dX3_give_31 : decode cX3_give 31 = .ok (.iconst 2, 1) := by decide +kernel
theorem dX3_give_32 : decode cX3_give 32 = .ok (.invokevirtual 105, 3) := by decide +kernel
theorem dX3_give_35 : decode cX3_give 35 = .ok (.ireturn, 1) := by decide +kernel
theorem dX3_give_36 : decode cX3_give 36 = .ok (.aload_n 0, 1) := by decide +kernel
theorem dX3_give_37 : decode cX3_give 37 = .ok (.getfield 31, 3) := by decide +kernel
theorem dX3_give_40 : decode cX3_give 40 = .ok (.iconst 2, 1) := by decide +kernel
theorem dX3_give_41 : decode cX3_give 41 = .ok (.iload_n 1, 1) := by decide +kernel
theorem dX3_give_42 : decode cX3_give 42 = .ok (.iadd, 1) := by decide +kernel
theorem dX3_give_43 : decode cX3_give 43 = .ok (.dup2, 1) := by decide +kernel
theorem dX3_give_44 : decode cX3_give 44 = .ok (.iaload, 1) := by decide +kernel
theorem dX3_give_45 : decode cX3_give 45 = .ok (.iload_n 2, 1) := by decide +kernel
theorem dX3_give_46 : decode cX3_give 46 = .ok (.iadd, 1) := by decide +kernel
theorem dX3_give_47 : decode cX3_give 47 = .ok (.iastore, 1) := by decide +kernel
theorem dX3_give_48 : decode cX3_give 48 = .ok (.aload_n 0, 1) := by decide +kernel
theorem dX3_give_49 : decode cX3_give 49 = .ok (.getfield 31, 3) := by decide +kernel
theorem dX3_give_52 : decode cX3_give 52 = .ok (.iconst 2, 1) := by decide +kernel
theorem dX3_give_53 : decode cX3_give 53 = .ok (.iload_n 1, 1) := by decide +kernel
theorem dX3_give_54 : decode cX3_give 54 = .ok (.iadd, 1) := by decide +kernel
theorem dX3_give_55 : decode cX3_give 55 = .ok (.iaload, 1) := by decide +kernel
theorem dX3_give_56 : decode cX3_give 56 = .ok (.ireturn, 1) := by decide +kernel
theorem dX3_pass_0 : decode cX3_pass 0 = .ok (.aload_n 0, 1) := by decide +kernel
theorem dX3_pass_1 : decode cX3_pass 1 = .ok (.iconst 0, 1) := by decide +kernel
theorem dX3_pass_2 : decode cX3_pass 2 = .ok (.putfield 44, 3) := by decide +kernel
theorem dX3_pass_5 : decode cX3_pass 5 = .ok (.iload_n 1, 1) := by decide +kernel
theorem dX3_pass_6 : decode cX3_pass 6 = .ok (.iconst 1, 1) := by decide +kernel
theorem dX3_pass_7 : decode cX3_pass 7 = .ok (.bipush 60, 2) := by decide +kernel
theorem dX3_pass_9 : decode cX3_pass 9 = .ok (.invokestatic 51, 3) := by decide +kernel
theorem dX3_pass_12 : decode cX3_pass 12 = .ok (.ifCond .ne 9, 3) := by decide +kernel
theorem dX3_pass_15 : decode cX3_pass 15 = .ok (.aload_n 0, 1) := by decide +kernel
theorem dX3_pass_16 : decode cX3_pass 16 = .ok (.iconst 1, 1) := by decide +kernel
theorem dX3_pass_17 : decode cX3_pass 17 = .ok (.invokevirtual 105, 3) := by decide +kernel
theorem dX3_pass_20 : decode cX3_pass 20 = .ok (.ireturn, 1) := by decide +kernel
theorem dX3_pass_21 : decode cX3_pass 21 = .ok (.aload_n 0, 1) := by decide +kernel
theorem dX3_pass_22 : decode cX3_pass 22 = .ok (.iconst 4, 1) := by decide +kernel
theorem dX3_pass_23 : decode cX3_pass 23 = .ok (.invokevirtual 120, 3) := by decide +kernel
theorem dX3_pass_26 : decode cX3_pass 26 = .ok (.istore_n 2, 1) := by decide +kernel
theorem dX3_pass_27 : decode cX3_pass 27 = .ok (.aload_n 0, 1) := by decide +kernel
theorem dX3_pass_28 : decode cX3_pass 28 = .ok (.iload_n 1, 1) := by decide +kernel
theorem dX3_pass_29 : decode cX3_pass 29 = .ok (.invokevirtual 123, 3) := by decide +kernel
theorem dX3_pass_32 : decode cX3_pass 32 = .ok (.aload_n 0, 1) := by decide +kernel
theorem dX3_pass_33 : decode cX3_pass 33 = .ok (.iconst 4, 1) := by decide +kernel
theorem dX3_pass_34 : decode cX3_pass 34 = .ok (.invokevirtual 120, 3) := by decide +kernel
theorem dX3_pass_37 : decode cX3_pass 37 = .ok (.iload_n 2, 1) := by decide +kernel
theorem dX3_pass_38 : decode cX3_pass 38 = .ok (.isub, 1) := by decide +kernel
theorem dX3_pass_39 : decode cX3_pass 39 = .ok (.ireturn, 1) := by decide +kernel
theorem dX3_day_0 : decode cX3_day 0 = .ok (.aload_n 0, 1) := by decide +kernel
theorem dX3_day_1 : decode cX3_day 1 = .ok (.aload_n 0, 1) := by decide +kernel
theorem dX3_day_2 : decode cX3_day 2 = .ok (.getfield 31, 3) := by decide +kernel
theorem dX3_day_5 : decode cX3_day 5 = .ok (.iconst 0, 1) := by decide +kernel
theorem dX3_day_6 : decode cX3_day 6 = .ok (.iaload, 1) := by decide +kernel
theorem dX3_day_7 : decode cX3_day 7 = .ok (.invokevirtual 126, 3) := by decide +kernel
theorem dX3_day_10 : decode cX3_day 10 = .ok (.ireturn, 1) := by decide +kernel
theorem dX3_parties_0 : decode cX3_parties 0 = .ok (.aload_n 0, 1) := by decide +kernel
theorem dX3_parties_1 : decode cX3_parties 1 = .ok (.aload_n 0, 1) := by decide +kernel
theorem dX3_parties_2 : decode cX3_parties 2 = .ok (.getfield 48, 3) := by decide +kernel
theorem dX3_parties_5 : decode cX3_parties 5 = .ok (.invokevirtual 126, 3) := by decide +kernel
theorem dX3_parties_8 : decode cX3_parties 8 = .ok (.ireturn, 1) := by decide +kernel
theorem dX3_duties_0 : decode cX3_duties 0 = .ok (.aload_n 0, 1) := by decide +kernel
theorem dX3_duties_1 : decode cX3_duties 1 = .ok (.aload_n 0, 1) := by decide +kernel
theorem dX3_duties_2 : decode cX3_duties 2 = .ok (.getfield 55, 3) := by decide +kernel
theorem dX3_duties_5 : decode cX3_duties 5 = .ok (.invokevirtual 126, 3) := by decide +kernel
theorem dX3_duties_8 : decode cX3_duties 8 = .ok (.ireturn, 1) := by decide +kernel
theorem dX3_inState_0 : decode cX3_inState 0 = .ok (.aload_n 0, 1) := by decide +kernel
theorem dX3_inState_1 : decode cX3_inState 1 = .ok (.iconst 0, 1) := by decide +kernel
theorem dX3_inState_2 : decode cX3_inState 2 = .ok (.putfield 44, 3) := by decide +kernel
theorem dX3_inState_5 : decode cX3_inState 5 = .ok (.iload_n 1, 1) := by decide +kernel
theorem dX3_inState_6 : decode cX3_inState 6 = .ok (.iconst 0, 1) := by decide +kernel
theorem dX3_inState_7 : decode cX3_inState 7 = .ok (.iconst 5, 1) := by decide +kernel
theorem dX3_inState_8 : decode cX3_inState 8 = .ok (.invokestatic 51, 3) := by decide +kernel
theorem dX3_inState_11 : decode cX3_inState 11 = .ok (.ifCond .eq 11, 3) := by decide +kernel
theorem dX3_inState_14 : decode cX3_inState 14 = .ok (.aload_n 0, 1) := by decide +kernel
theorem dX3_inState_15 : decode cX3_inState 15 = .ok (.iload_n 1, 1) := by decide +kernel
theorem dX3_inState_16 : decode cX3_inState 16 = .ok (.invokevirtual 120, 3) := by decide +kernel
theorem dX3_inState_19 : decode cX3_inState 19 = .ok (.goto 8, 3) := by decide +kernel
theorem dX3_inState_22 : decode cX3_inState 22 = .ok (.aload_n 0, 1) := by decide +kernel
theorem dX3_inState_23 : decode cX3_inState 23 = .ok (.iconst 1, 1) := by decide +kernel
theorem dX3_inState_24 : decode cX3_inState 24 = .ok (.invokevirtual 105, 3) := by decide +kernel
theorem dX3_inState_27 : decode cX3_inState 27 = .ok (.ireturn, 1) := by decide +kernel
theorem dX3_purseOf_0 : decode cX3_purseOf 0 = .ok (.aload_n 0, 1) := by decide +kernel
theorem dX3_purseOf_1 : decode cX3_purseOf 1 = .ok (.iconst 0, 1) := by decide +kernel
theorem dX3_purseOf_2 : decode cX3_purseOf 2 = .ok (.putfield 44, 3) := by decide +kernel
theorem dX3_purseOf_5 : decode cX3_purseOf 5 = .ok (.aload_n 0, 1) := by decide +kernel
theorem dX3_purseOf_6 : decode cX3_purseOf 6 = .ok (.iload_n 1, 1) := by decide +kernel
theorem dX3_purseOf_7 : decode cX3_purseOf 7 = .ok (.invokevirtual 108, 3) := by decide +kernel
theorem dX3_purseOf_10 : decode cX3_purseOf 10 = .ok (.ifCond .eq 14, 3) := by decide +kernel
theorem dX3_purseOf_13 : decode cX3_purseOf 13 = .ok (.aload_n 0, 1) := by decide +kernel
theorem dX3_purseOf_14 : decode cX3_purseOf 14 = .ok (.getfield 31, 3) := by decide +kernel
theorem dX3_purseOf_17 : decode cX3_purseOf 17 = .ok (.iconst 2, 1) := by decide +kernel
theorem dX3_purseOf_18 : decode cX3_purseOf 18 = .ok (.iload_n 1, 1) := by decide +kernel
theorem dX3_purseOf_19 : decode cX3_purseOf 19 = .ok (.iadd, 1) := by decide +kernel
theorem dX3_purseOf_20 : decode cX3_purseOf 20 = .ok (.iaload, 1) := by decide +kernel
theorem dX3_purseOf_21 : decode cX3_purseOf 21 = .ok (.goto 8, 3) := by decide +kernel
theorem dX3_purseOf_24 : decode cX3_purseOf 24 = .ok (.aload_n 0, 1) := by decide +kernel
theorem dX3_purseOf_25 : decode cX3_purseOf 25 = .ok (.iconst 1, 1) := by decide +kernel
theorem dX3_purseOf_26 : decode cX3_purseOf 26 = .ok (.invokevirtual 105, 3) := by decide +kernel
theorem dX3_purseOf_29 : decode cX3_purseOf 29 = .ok (.ireturn, 1) := by decide +kernel
theorem dX3_penalties_0 : decode cX3_penalties 0 = .ok (.aload_n 0, 1) := by decide +kernel
theorem dX3_penalties_1 : decode cX3_penalties 1 = .ok (.aload_n 0, 1) := by decide +kernel
theorem dX3_penalties_2 : decode cX3_penalties 2 = .ok (.getfield 31, 3) := by decide +kernel
theorem dX3_penalties_5 : decode cX3_penalties 5 = .ok (.iconst 1, 1) := by decide +kernel
theorem dX3_penalties_6 : decode cX3_penalties 6 = .ok (.iaload, 1) := by decide +kernel
theorem dX3_penalties_7 : decode cX3_penalties 7 = .ok (.invokevirtual 126, 3) := by decide +kernel
theorem dX3_penalties_10 : decode cX3_penalties 10 = .ok (.ireturn, 1) := by decide +kernel
theorem dX3_ofDuty_0 : decode cX3_ofDuty 0 = .ok (.aload_n 0, 1) := by decide +kernel
theorem dX3_ofDuty_1 : decode cX3_ofDuty 1 = .ok (.iconst 0, 1) := by decide +kernel
theorem dX3_ofDuty_2 : decode cX3_ofDuty 2 = .ok (.putfield 44, 3) := by decide +kernel
theorem dX3_ofDuty_5 : decode cX3_ofDuty 5 = .ok (.aload_n 0, 1) := by decide +kernel
theorem dX3_ofDuty_6 : decode cX3_ofDuty 6 = .ok (.iload_n 1, 1) := by decide +kernel
theorem dX3_ofDuty_7 : decode cX3_ofDuty 7 = .ok (.invokevirtual 111, 3) := by decide +kernel
theorem dX3_ofDuty_10 : decode cX3_ofDuty 10 = .ok (.ifCond .eq 14, 3) := by decide +kernel
theorem dX3_ofDuty_13 : decode cX3_ofDuty 13 = .ok (.aload_n 0, 1) := by decide +kernel
theorem dX3_ofDuty_14 : decode cX3_ofDuty 14 = .ok (.getfield 31, 3) := by decide +kernel
theorem dX3_ofDuty_17 : decode cX3_ofDuty 17 = .ok (.iload_n 2, 1) := by decide +kernel
theorem dX3_ofDuty_18 : decode cX3_ofDuty 18 = .ok (.iload_n 1, 1) := by decide +kernel
theorem dX3_ofDuty_19 : decode cX3_ofDuty 19 = .ok (.iadd, 1) := by decide +kernel
theorem dX3_ofDuty_20 : decode cX3_ofDuty 20 = .ok (.iaload, 1) := by decide +kernel
theorem dX3_ofDuty_21 : decode cX3_ofDuty 21 = .ok (.goto 8, 3) := by decide +kernel
theorem dX3_ofDuty_24 : decode cX3_ofDuty 24 = .ok (.aload_n 0, 1) := by decide +kernel
theorem dX3_ofDuty_25 : decode cX3_ofDuty 25 = .ok (.iconst 1, 1) := by decide +kernel
theorem dX3_ofDuty_26 : decode cX3_ofDuty 26 = .ok (.invokevirtual 105, 3) := by decide +kernel
theorem dX3_ofDuty_29 : decode cX3_ofDuty 29 = .ok (.ireturn, 1) := by decide +kernel
theorem dX3_stateOf_0 : decode cX3_stateOf 0 = .ok (.aload_n 0, 1) := by decide +kernel
theorem dX3_stateOf_1 : decode cX3_stateOf 1 = .ok (.iload_n 1, 1) := by decide +kernel
theorem dX3_stateOf_2 : decode cX3_stateOf 2 = .ok (.bipush 8, 2) := by decide +kernel
theorem dX3_stateOf_4 : decode cX3_stateOf 4 = .ok (.invokevirtual 129, 3) := by decide +kernel
theorem dX3_stateOf_7 : decode cX3_stateOf 7 = .ok (.ireturn, 1) := by decide +kernel
theorem dX3_daysLeft_0 : decode cX3_daysLeft 0 = .ok (.aload_n 0, 1) := by decide +kernel
theorem dX3_daysLeft_1 : decode cX3_daysLeft 1 = .ok (.iload_n 1, 1) := by decide +kernel
theorem dX3_daysLeft_2 : decode cX3_daysLeft 2 = .ok (.bipush 28, 2) := by decide +kernel
theorem dX3_daysLeft_4 : decode cX3_daysLeft 4 = .ok (.invokevirtual 129, 3) := by decide +kernel
theorem dX3_daysLeft_7 : decode cX3_daysLeft 7 = .ok (.ireturn, 1) := by decide +kernel
theorem dX3_stoppedFor_0 : decode cX3_stoppedFor 0 = .ok (.aload_n 0, 1) := by decide +kernel
theorem dX3_stoppedFor_1 : decode cX3_stoppedFor 1 = .ok (.iload_n 1, 1) := by decide +kernel
theorem dX3_stoppedFor_2 : decode cX3_stoppedFor 2 = .ok (.bipush 48, 2) := by decide +kernel
theorem dX3_stoppedFor_4 : decode cX3_stoppedFor 4 = .ok (.invokevirtual 129, 3) := by decide +kernel
theorem dX3_stoppedFor_7 : decode cX3_stoppedFor 7 = .ok (.ireturn, 1) := by decide +kernel
theorem dX3_priceOf_0 : decode cX3_priceOf 0 = .ok (.aload_n 0, 1) := by decide +kernel
theorem dX3_priceOf_1 : decode cX3_priceOf 1 = .ok (.iconst 0, 1) := by decide +kernel
theorem dX3_priceOf_2 : decode cX3_priceOf 2 = .ok (.putfield 44, 3) := by decide +kernel
theorem dX3_priceOf_5 : decode cX3_priceOf 5 = .ok (.aload_n 0, 1) := by decide +kernel
theorem dX3_priceOf_6 : decode cX3_priceOf 6 = .ok (.iload_n 1, 1) := by decide +kernel
theorem dX3_priceOf_7 : decode cX3_priceOf 7 = .ok (.invokevirtual 111, 3) := by decide +kernel
theorem dX3_priceOf_10 : decode cX3_priceOf 10 = .ok (.ifCond .eq 11, 3) := by decide +kernel
theorem dX3_priceOf_13 : decode cX3_priceOf 13 = .ok (.aload_n 0, 1) := by decide +kernel
theorem dX3_priceOf_14 : decode cX3_priceOf 14 = .ok (.iload_n 1, 1) := by decide +kernel
theorem dX3_priceOf_15 : decode cX3_priceOf 15 = .ok (.invokevirtual 72, 3) := by decide +kernel
theorem dX3_priceOf_18 : decode cX3_priceOf 18 = .ok (.goto 8, 3) := by decide +kernel
theorem dX3_priceOf_21 : decode cX3_priceOf 21 = .ok (.aload_n 0, 1) := by decide +kernel
theorem dX3_priceOf_22 : decode cX3_priceOf 22 = .ok (.iconst 1, 1) := by decide +kernel
theorem dX3_priceOf_23 : decode cX3_priceOf 23 = .ok (.invokevirtual 105, 3) := by decide +kernel
theorem dX3_priceOf_26 : decode cX3_priceOf 26 = .ok (.ireturn, 1) := by decide +kernel
theorem dX3_hangsOn_0 : decode cX3_hangsOn 0 = .ok (.aload_n 0, 1) := by decide +kernel
theorem dX3_hangsOn_1 : decode cX3_hangsOn 1 = .ok (.getfield 28, 3) := by decide +kernel
theorem dX3_hangsOn_4 : decode cX3_hangsOn 4 = .ok (.iload_n 1, 1) := by decide +kernel
theorem dX3_hangsOn_5 : decode cX3_hangsOn 5 = .ok (.iaload, 1) := by decide +kernel
theorem dX3_hangsOn_6 : decode cX3_hangsOn 6 = .ok (.istore_n 3, 1) := by decide +kernel
theorem dX3_hangsOn_7 : decode cX3_hangsOn 7 = .ok (.iload_n 3, 1) := by decide +kernel
theorem dX3_hangsOn_8 : decode cX3_hangsOn 8 = .ok (.iconst (-1), 1) := by decide +kernel
theorem dX3_hangsOn_9 : decode cX3_hangsOn 9 = .ok (.if_icmp .eq 20, 3) := by decide +kernel
theorem dX3_hangsOn_12 : decode cX3_hangsOn 12 = .ok (.iload_n 3, 1) := by decide +kernel
theorem dX3_hangsOn_13 : decode cX3_hangsOn 13 = .ok (.iload_n 2, 1) := by decide +kernel
theorem dX3_hangsOn_14 : decode cX3_hangsOn 14 = .ok (.if_icmp .ne 5, 3) := by decide +kernel
theorem dX3_hangsOn_17 : decode cX3_hangsOn 17 = .ok (.iconst 1, 1) := by decide +kernel
theorem dX3_hangsOn_18 : decode cX3_hangsOn 18 = .ok (.ireturn, 1) := by decide +kernel
theorem dX3_hangsOn_19 : decode cX3_hangsOn 19 = .ok (.aload_n 0, 1) := by decide +kernel
theorem dX3_hangsOn_20 : decode cX3_hangsOn 20 = .ok (.getfield 28, 3) := by decide +kernel
theorem dX3_hangsOn_23 : decode cX3_hangsOn 23 = .ok (.iload_n 3, 1) := by decide +kernel
theorem dX3_hangsOn_24 : decode cX3_hangsOn 24 = .ok (.iaload, 1) := by decide +kernel
theorem dX3_hangsOn_25 : decode cX3_hangsOn 25 = .ok (.istore_n 3, 1) := by decide +kernel
theorem dX3_hangsOn_26 : decode cX3_hangsOn 26 = .ok (.goto (-19), 3) := by decide +kernel
theorem dX3_hangsOn_29 : decode cX3_hangsOn 29 = .ok (.iconst 0, 1) := by decide +kernel
theorem dX3_hangsOn_30 : decode cX3_hangsOn 30 = .ok (.ireturn, 1) := by decide +kernel
theorem dX3_behind_0 : decode cX3_behind 0 = .ok (.iconst 0, 1) := by decide +kernel
theorem dX3_behind_1 : decode cX3_behind 1 = .ok (.istore_n 2, 1) := by decide +kernel
theorem dX3_behind_2 : decode cX3_behind 2 = .ok (.iload_n 1, 1) := by decide +kernel
theorem dX3_behind_3 : decode cX3_behind 3 = .ok (.iconst 1, 1) := by decide +kernel
theorem dX3_behind_4 : decode cX3_behind 4 = .ok (.iadd, 1) := by decide +kernel
theorem dX3_behind_5 : decode cX3_behind 5 = .ok (.istore_n 3, 1) := by decide +kernel
theorem dX3_behind_6 : decode cX3_behind 6 = .ok (.iload_n 3, 1) := by decide +kernel
theorem dX3_behind_7 : decode cX3_behind 7 = .ok (.aload_n 0, 1) := by decide +kernel
theorem dX3_behind_8 : decode cX3_behind 8 = .ok (.getfield 55, 3) := by decide +kernel
theorem dX3_behind_11 : decode cX3_behind 11 = .ok (.if_icmp .ge 26, 3) := by decide +kernel
theorem dX3_behind_14 : decode cX3_behind 14 = .ok (.iload_n 2, 1) := by decide +kernel
theorem dX3_behind_15 : decode cX3_behind 15 = .ok (.aload_n 0, 1) := by decide +kernel
theorem dX3_behind_16 : decode cX3_behind 16 = .ok (.iload_n 3, 1) := by decide +kernel
theorem dX3_behind_17 : decode cX3_behind 17 = .ok (.iload_n 1, 1) := by decide +kernel
theorem dX3_behind_18 : decode cX3_behind 18 = .ok (.invokevirtual 132, 3) := by decide +kernel
theorem dX3_behind_21 : decode cX3_behind 21 = .ok (.ifCond .eq 7, 3) := by decide +kernel
theorem dX3_behind_24 : decode cX3_behind 24 = .ok (.iconst 1, 1) := by decide +kernel
theorem dX3_behind_25 : decode cX3_behind 25 = .ok (.goto 4, 3) := by decide +kernel
theorem dX3_behind_28 : decode cX3_behind 28 = .ok (.iconst 0, 1) := by decide +kernel
theorem dX3_behind_29 : decode cX3_behind 29 = .ok (.iadd, 1) := by decide +kernel
theorem dX3_behind_30 : decode cX3_behind 30 = .ok (.istore_n 2, 1) := by decide +kernel
theorem dX3_behind_31 : decode cX3_behind 31 = .ok (.iinc 3 1, 3) := by decide +kernel
theorem dX3_behind_34 : decode cX3_behind 34 = .ok (.goto (-28), 3) := by decide +kernel
theorem dX3_behind_37 : decode cX3_behind 37 = .ok (.iload_n 2, 1) := by decide +kernel
theorem dX3_behind_38 : decode cX3_behind 38 = .ok (.ireturn, 1) := by decide +kernel
theorem dX3_hanging_0 : decode cX3_hanging 0 = .ok (.aload_n 0, 1) := by decide +kernel
theorem dX3_hanging_1 : decode cX3_hanging 1 = .ok (.iconst 0, 1) := by decide +kernel
theorem dX3_hanging_2 : decode cX3_hanging 2 = .ok (.putfield 44, 3) := by decide +kernel
theorem dX3_hanging_5 : decode cX3_hanging 5 = .ok (.aload_n 0, 1) := by decide +kernel
theorem dX3_hanging_6 : decode cX3_hanging 6 = .ok (.iload_n 1, 1) := by decide +kernel
theorem dX3_hanging_7 : decode cX3_hanging 7 = .ok (.invokevirtual 111, 3) := by decide +kernel
theorem dX3_hanging_10 : decode cX3_hanging 10 = .ok (.ifCond .eq 11, 3) := by decide +kernel
theorem dX3_hanging_13 : decode cX3_hanging 13 = .ok (.aload_n 0, 1) := by decide +kernel
theorem dX3_hanging_14 : decode cX3_hanging 14 = .ok (.iload_n 1, 1) := by decide +kernel
theorem dX3_hanging_15 : decode cX3_hanging 15 = .ok (.invokevirtual 136, 3) := by decide +kernel
theorem dX3_hanging_18 : decode cX3_hanging 18 = .ok (.goto 8, 3) := by decide +kernel
theorem dX3_hanging_21 : decode cX3_hanging 21 = .ok (.aload_n 0, 1) := by decide +kernel
theorem dX3_hanging_22 : decode cX3_hanging 22 = .ok (.iconst 1, 1) := by decide +kernel
theorem dX3_hanging_23 : decode cX3_hanging 23 = .ok (.invokevirtual 105, 3) := by decide +kernel
theorem dX3_hanging_26 : decode cX3_hanging 26 = .ok (.ireturn, 1) := by decide +kernel
theorem dX3_depth_0 : decode cX3_depth 0 = .ok (.iconst 0, 1) := by decide +kernel
theorem dX3_depth_1 : decode cX3_depth 1 = .ok (.istore_n 2, 1) := by decide +kernel
theorem dX3_depth_2 : decode cX3_depth 2 = .ok (.aload_n 0, 1) := by decide +kernel
theorem dX3_depth_3 : decode cX3_depth 3 = .ok (.getfield 28, 3) := by decide +kernel
theorem dX3_depth_6 : decode cX3_depth 6 = .ok (.iload_n 1, 1) := by decide +kernel
theorem dX3_depth_7 : decode cX3_depth 7 = .ok (.iaload, 1) := by decide +kernel
theorem dX3_depth_8 : decode cX3_depth 8 = .ok (.istore_n 3, 1) := by decide +kernel
theorem dX3_depth_9 : decode cX3_depth 9 = .ok (.iload_n 3, 1) := by decide +kernel
theorem dX3_depth_10 : decode cX3_depth 10 = .ok (.iconst (-1), 1) := by decide +kernel
theorem dX3_depth_11 : decode cX3_depth 11 = .ok (.if_icmp .eq 16, 3) := by decide +kernel
theorem dX3_depth_14 : decode cX3_depth 14 = .ok (.iinc 2 1, 3) := by decide +kernel
theorem dX3_depth_17 : decode cX3_depth 17 = .ok (.aload_n 0, 1) := by decide +kernel
theorem dX3_depth_18 : decode cX3_depth 18 = .ok (.getfield 28, 3) := by decide +kernel
theorem dX3_depth_21 : decode cX3_depth 21 = .ok (.iload_n 3, 1) := by decide +kernel
theorem dX3_depth_22 : decode cX3_depth 22 = .ok (.iaload, 1) := by decide +kernel
theorem dX3_depth_23 : decode cX3_depth 23 = .ok (.istore_n 3, 1) := by decide +kernel
theorem dX3_depth_24 : decode cX3_depth 24 = .ok (.goto (-15), 3) := by decide +kernel
theorem dX3_depth_27 : decode cX3_depth 27 = .ok (.iload_n 2, 1) := by decide +kernel
theorem dX3_depth_28 : decode cX3_depth 28 = .ok (.ireturn, 1) := by decide +kernel
theorem dX3_depthOf_0 : decode cX3_depthOf 0 = .ok (.aload_n 0, 1) := by decide +kernel
theorem dX3_depthOf_1 : decode cX3_depthOf 1 = .ok (.iconst 0, 1) := by decide +kernel
theorem dX3_depthOf_2 : decode cX3_depthOf 2 = .ok (.putfield 44, 3) := by decide +kernel
theorem dX3_depthOf_5 : decode cX3_depthOf 5 = .ok (.aload_n 0, 1) := by decide +kernel
theorem dX3_depthOf_6 : decode cX3_depthOf 6 = .ok (.iload_n 1, 1) := by decide +kernel
theorem dX3_depthOf_7 : decode cX3_depthOf 7 = .ok (.invokevirtual 111, 3) := by decide +kernel
theorem dX3_depthOf_10 : decode cX3_depthOf 10 = .ok (.ifCond .eq 11, 3) := by decide +kernel
theorem dX3_depthOf_13 : decode cX3_depthOf 13 = .ok (.aload_n 0, 1) := by decide +kernel
theorem dX3_depthOf_14 : decode cX3_depthOf 14 = .ok (.iload_n 1, 1) := by decide +kernel
theorem dX3_depthOf_15 : decode cX3_depthOf 15 = .ok (.invokevirtual 139, 3) := by decide +kernel
theorem dX3_depthOf_18 : decode cX3_depthOf 18 = .ok (.goto 8, 3) := by decide +kernel
theorem dX3_depthOf_21 : decode cX3_depthOf 21 = .ok (.aload_n 0, 1) := by decide +kernel
theorem dX3_depthOf_22 : decode cX3_depthOf 22 = .ok (.iconst 1, 1) := by decide +kernel
theorem dX3_depthOf_23 : decode cX3_depthOf 23 = .ok (.invokevirtual 105, 3) := by decide +kernel
theorem dX3_depthOf_26 : decode cX3_depthOf 26 = .ok (.ireturn, 1) := by decide +kernel
theorem dX3_write_0 : decode cX3_write 0 = .ok (.aload_n 0, 1) := by decide +kernel
theorem dX3_write_1 : decode cX3_write 1 = .ok (.getfield 40, 3) := by decide +kernel
theorem dX3_write_4 : decode cX3_write 4 = .ok (.iconst 0, 1) := by decide +kernel
theorem dX3_write_5 : decode cX3_write 5 = .ok (.invokevirtual 142, 3) := by decide +kernel
theorem dX3_write_8 : decode cX3_write 8 = .ok (.aload_n 0, 1) := by decide +kernel
theorem dX3_write_9 : decode cX3_write 9 = .ok (.getfield 40, 3) := by decide +kernel
theorem dX3_write_12 : decode cX3_write 12 = .ok (.aload_n 0, 1) := by decide +kernel
theorem dX3_write_13 : decode cX3_write 13 = .ok (.getfield 9, 3) := by decide +kernel
theorem dX3_write_16 : decode cX3_write 16 = .ok (.iload_n 1, 1) := by decide +kernel
theorem dX3_write_17 : decode cX3_write 17 = .ok (.iaload, 1) := by decide +kernel
theorem dX3_write_18 : decode cX3_write 18 = .ok (.invokevirtual 145, 3) := by decide +kernel
theorem dX3_write_21 : decode cX3_write 21 = .ok (.ldc 149, 2) := by decide +kernel
theorem dX3_write_23 : decode cX3_write 23 = .ok (.invokevirtual 151, 3) := by decide +kernel
theorem dX3_write_26 : decode cX3_write 26 = .ok (.aload_n 0, 1) := by decide +kernel
theorem dX3_write_27 : decode cX3_write 27 = .ok (.getfield 16, 3) := by decide +kernel
theorem dX3_write_30 : decode cX3_write 30 = .ok (.iload_n 1, 1) := by decide +kernel
theorem dX3_write_31 : decode cX3_write 31 = .ok (.iaload, 1) := by decide +kernel
theorem dX3_write_32 : decode cX3_write 32 = .ok (.invokevirtual 145, 3) := by decide +kernel
theorem dX3_write_35 : decode cX3_write 35 = .ok (.ldc 154, 2) := by decide +kernel
theorem dX3_write_37 : decode cX3_write 37 = .ok (.invokevirtual 151, 3) := by decide +kernel
theorem dX3_write_40 : decode cX3_write 40 = .ok (.aload_n 0, 1) := by decide +kernel
theorem dX3_write_41 : decode cX3_write 41 = .ok (.getfield 13, 3) := by decide +kernel
theorem dX3_write_44 : decode cX3_write 44 = .ok (.iload_n 1, 1) := by decide +kernel
theorem dX3_write_45 : decode cX3_write 45 = .ok (.iaload, 1) := by decide +kernel
theorem dX3_write_46 : decode cX3_write 46 = .ok (.invokevirtual 145, 3) := by decide +kernel
theorem dX3_write_49 : decode cX3_write 49 = .ok (.pop, 1) := by decide +kernel
theorem dX3_write_50 : decode cX3_write 50 = .ok (.aload_n 0, 1) := by decide +kernel
theorem dX3_write_51 : decode cX3_write 51 = .ok (.getfield 28, 3) := by decide +kernel
theorem dX3_write_54 : decode cX3_write 54 = .ok (.iload_n 1, 1) := by decide +kernel
theorem dX3_write_55 : decode cX3_write 55 = .ok (.iaload, 1) := by decide +kernel
theorem dX3_write_56 : decode cX3_write 56 = .ok (.iconst (-1), 1) := by decide +kernel
theorem dX3_write_57 : decode cX3_write 57 = .ok (.if_icmp .eq 22, 3) := by decide +kernel
theorem dX3_write_60 : decode cX3_write 60 = .ok (.aload_n 0, 1) := by decide +kernel
theorem dX3_write_61 : decode cX3_write 61 = .ok (.getfield 40, 3) := by decide +kernel
theorem dX3_write_64 : decode cX3_write 64 = .ok (.ldc 156, 2) := by decide +kernel
theorem dX3_write_66 : decode cX3_write 66 = .ok (.invokevirtual 151, 3) := by decide +kernel
theorem dX3_write_69 : decode cX3_write 69 = .ok (.aload_n 0, 1) := by decide +kernel
theorem dX3_write_70 : decode cX3_write 70 = .ok (.getfield 28, 3) := by decide +kernel
theorem dX3_write_73 : decode cX3_write 73 = .ok (.iload_n 1, 1) := by decide +kernel
theorem dX3_write_74 : decode cX3_write 74 = .ok (.iaload, 1) := by decide +kernel
theorem dX3_write_75 : decode cX3_write 75 = .ok (.invokevirtual 145, 3) := by decide +kernel
theorem dX3_write_78 : decode cX3_write 78 = .ok (.pop, 1) := by decide +kernel
theorem dX3_write_79 : decode cX3_write 79 = .ok (.aload_n 0, 1) := by decide +kernel
theorem dX3_write_80 : decode cX3_write 80 = .ok (.getfield 40, 3) := by decide +kernel
theorem dX3_write_83 : decode cX3_write 83 = .ok (.bipush 46, 2) := by decide +kernel
theorem dX3_write_85 : decode cX3_write 85 = .ok (.invokevirtual 158, 3) := by decide +kernel
theorem dX3_write_88 : decode cX3_write 88 = .ok (.pop, 1) := by decide +kernel
theorem dX3_write_89 : decode cX3_write 89 = .ok (.return_, 1) := by decide +kernel
theorem dX3_written_0 : decode cX3_written 0 = .ok (.aload_n 0, 1) := by decide +kernel
theorem dX3_written_1 : decode cX3_written 1 = .ok (.iload_n 1, 1) := by decide +kernel
theorem dX3_written_2 : decode cX3_written 2 = .ok (.invokevirtual 161, 3) := by decide +kernel
theorem dX3_written_5 : decode cX3_written 5 = .ok (.aload_n 0, 1) := by decide +kernel
theorem dX3_written_6 : decode cX3_written 6 = .ok (.getfield 40, 3) := by decide +kernel
theorem dX3_written_9 : decode cX3_written 9 = .ok (.invokevirtual 164, 3) := by decide +kernel
theorem dX3_written_12 : decode cX3_written 12 = .ok (.ireturn, 1) := by decide +kernel
theorem dX3_textLength_0 : decode cX3_textLength 0 = .ok (.aload_n 0, 1) := by decide +kernel
theorem dX3_textLength_1 : decode cX3_textLength 1 = .ok (.iconst 0, 1) := by decide +kernel
theorem dX3_textLength_2 : decode cX3_textLength 2 = .ok (.putfield 44, 3) := by decide +kernel
theorem dX3_textLength_5 : decode cX3_textLength 5 = .ok (.aload_n 0, 1) := by decide +kernel
theorem dX3_textLength_6 : decode cX3_textLength 6 = .ok (.iload_n 1, 1) := by decide +kernel
theorem dX3_textLength_7 : decode cX3_textLength 7 = .ok (.invokevirtual 111, 3) := by decide +kernel
theorem dX3_textLength_10 : decode cX3_textLength 10 = .ok (.ifCond .eq 11, 3) := by decide +kernel
theorem dX3_textLength_13 : decode cX3_textLength 13 = .ok (.aload_n 0, 1) := by decide +kernel
theorem dX3_textLength_14 : decode cX3_textLength 14 = .ok (.iload_n 1, 1) := by decide +kernel
theorem dX3_textLength_15 : decode cX3_textLength 15 = .ok (.invokevirtual 168, 3) := by decide +kernel
theorem dX3_textLength_18 : decode cX3_textLength 18 = .ok (.goto 8, 3) := by decide +kernel
theorem dX3_textLength_21 : decode cX3_textLength 21 = .ok (.aload_n 0, 1) := by decide +kernel
theorem dX3_textLength_22 : decode cX3_textLength 22 = .ok (.iconst 1, 1) := by decide +kernel
theorem dX3_textLength_23 : decode cX3_textLength 23 = .ok (.invokevirtual 105, 3) := by decide +kernel
theorem dX3_textLength_26 : decode cX3_textLength 26 = .ok (.ireturn, 1) := by decide +kernel
theorem dX3_seal_0 : decode cX3_seal 0 = .ok (.aload_n 0, 1) := by decide +kernel
theorem dX3_seal_1 : decode cX3_seal 1 = .ok (.iload_n 1, 1) := by decide +kernel
theorem dX3_seal_2 : decode cX3_seal 2 = .ok (.invokevirtual 161, 3) := by decide +kernel
theorem dX3_seal_5 : decode cX3_seal 5 = .ok (.bipush 11, 2) := by decide +kernel
theorem dX3_seal_7 : decode cX3_seal 7 = .ok (.istore_n 2, 1) := by decide +kernel
theorem dX3_seal_8 : decode cX3_seal 8 = .ok (.iconst 0, 1) := by decide +kernel
theorem dX3_seal_9 : decode cX3_seal 9 = .ok (.istore_n 3, 1) := by decide +kernel
theorem dX3_seal_10 : decode cX3_seal 10 = .ok (.iload_n 3, 1) := by decide +kernel
theorem dX3_seal_11 : decode cX3_seal 11 = .ok (.aload_n 0, 1) := by decide +kernel
theorem dX3_seal_12 : decode cX3_seal 12 = .ok (.getfield 40, 3) := by decide +kernel
theorem dX3_seal_15 : decode cX3_seal 15 = .ok (.invokevirtual 164, 3) := by decide +kernel
theorem dX3_seal_18 : decode cX3_seal 18 = .ok (.if_icmp .ge 23, 3) := by decide +kernel
theorem dX3_seal_21 : decode cX3_seal 21 = .ok (.iload_n 2, 1) := by decide +kernel
theorem dX3_seal_22 : decode cX3_seal 22 = .ok (.bipush 31, 2) := by decide +kernel
theorem dX3_seal_24 : decode cX3_seal 24 = .ok (.imul, 1) := by decide +kernel
theorem dX3_seal_25 : decode cX3_seal 25 = .ok (.aload_n 0, 1) := by decide +kernel
theorem dX3_seal_26 : decode cX3_seal 26 = .ok (.getfield 40, 3) := by decide +kernel
theorem dX3_seal_29 : decode cX3_seal 29 = .ok (.iload_n 3, 1) := by decide +kernel
theorem dX3_seal_30 : decode cX3_seal 30 = .ok (.invokevirtual 171, 3) := by decide +kernel
theorem dX3_seal_33 : decode cX3_seal 33 = .ok (.iadd, 1) := by decide +kernel
theorem dX3_seal_34 : decode cX3_seal 34 = .ok (.istore_n 2, 1) := by decide +kernel
theorem dX3_seal_35 : decode cX3_seal 35 = .ok (.iinc 3 1, 3) := by decide +kernel
theorem dX3_seal_38 : decode cX3_seal 38 = .ok (.goto (-28), 3) := by decide +kernel
theorem dX3_seal_41 : decode cX3_seal 41 = .ok (.iload_n 2, 1) := by decide +kernel
theorem dX3_seal_42 : decode cX3_seal 42 = .ok (.ireturn, 1) := by decide +kernel
theorem dX3_sealOf_0 : decode cX3_sealOf 0 = .ok (.aload_n 0, 1) := by decide +kernel
theorem dX3_sealOf_1 : decode cX3_sealOf 1 = .ok (.iconst 0, 1) := by decide +kernel
theorem dX3_sealOf_2 : decode cX3_sealOf 2 = .ok (.putfield 44, 3) := by decide +kernel
theorem dX3_sealOf_5 : decode cX3_sealOf 5 = .ok (.aload_n 0, 1) := by decide +kernel
theorem dX3_sealOf_6 : decode cX3_sealOf 6 = .ok (.iload_n 1, 1) := by decide +kernel
theorem dX3_sealOf_7 : decode cX3_sealOf 7 = .ok (.invokevirtual 111, 3) := by decide +kernel
theorem dX3_sealOf_10 : decode cX3_sealOf 10 = .ok (.ifCond .eq 11, 3) := by decide +kernel
theorem dX3_sealOf_13 : decode cX3_sealOf 13 = .ok (.aload_n 0, 1) := by decide +kernel
theorem dX3_sealOf_14 : decode cX3_sealOf 14 = .ok (.iload_n 1, 1) := by decide +kernel
theorem dX3_sealOf_15 : decode cX3_sealOf 15 = .ok (.invokevirtual 175, 3) := by decide +kernel
theorem dX3_sealOf_18 : decode cX3_sealOf 18 = .ok (.goto 8, 3) := by decide +kernel
theorem dX3_sealOf_21 : decode cX3_sealOf 21 = .ok (.aload_n 0, 1) := by decide +kernel
theorem dX3_sealOf_22 : decode cX3_sealOf 22 = .ok (.iconst 1, 1) := by decide +kernel
theorem dX3_sealOf_23 : decode cX3_sealOf 23 = .ok (.invokevirtual 105, 3) := by decide +kernel
theorem dX3_sealOf_26 : decode cX3_sealOf 26 = .ok (.ireturn, 1) := by decide +kernel
theorem dX3_owed_0 : decode cX3_owed 0 = .ok (.iconst 0, 1) := by decide +kernel
theorem dX3_owed_1 : decode cX3_owed 1 = .ok (.istore_n 2, 1) := by decide +kernel
theorem dX3_owed_2 : decode cX3_owed 2 = .ok (.iconst 0, 1) := by decide +kernel
theorem dX3_owed_3 : decode cX3_owed 3 = .ok (.istore_n 3, 1) := by decide +kernel
theorem dX3_owed_4 : decode cX3_owed 4 = .ok (.iload_n 3, 1) := by decide +kernel
theorem dX3_owed_5 : decode cX3_owed 5 = .ok (.aload_n 0, 1) := by decide +kernel
theorem dX3_owed_6 : decode cX3_owed 6 = .ok (.getfield 55, 3) := by decide +kernel
theorem dX3_owed_9 : decode cX3_owed 9 = .ok (.if_icmp .ge 31, 3) := by decide +kernel
theorem dX3_owed_12 : decode cX3_owed 12 = .ok (.iload_n 2, 1) := by decide +kernel
theorem dX3_owed_13 : decode cX3_owed 13 = .ok (.aload_n 0, 1) := by decide +kernel
theorem dX3_owed_14 : decode cX3_owed 14 = .ok (.getfield 9, 3) := by decide +kernel
theorem dX3_owed_17 : decode cX3_owed 17 = .ok (.iload_n 3, 1) := by decide +kernel
theorem dX3_owed_18 : decode cX3_owed 18 = .ok (.iaload, 1) := by decide +kernel
theorem dX3_owed_19 : decode cX3_owed 19 = .ok (.iload_n 1, 1) := by decide +kernel
theorem dX3_owed_20 : decode cX3_owed 20 = .ok (.if_icmp .ne 11, 3) := by decide +kernel
theorem dX3_owed_23 : decode cX3_owed 23 = .ok (.aload_n 0, 1) := by decide +kernel
theorem dX3_owed_24 : decode cX3_owed 24 = .ok (.iload_n 3, 1) := by decide +kernel
theorem dX3_owed_25 : decode cX3_owed 25 = .ok (.invokevirtual 72, 3) := by decide +kernel
theorem dX3_owed_28 : decode cX3_owed 28 = .ok (.goto 4, 3) := by decide +kernel
theorem dX3_owed_31 : decode cX3_owed 31 = .ok (.iconst 0, 1) := by decide +kernel
theorem dX3_owed_32 : decode cX3_owed 32 = .ok (.iadd, 1) := by decide +kernel
theorem dX3_owed_33 : decode cX3_owed 33 = .ok (.istore_n 2, 1) := by decide +kernel
theorem dX3_owed_34 : decode cX3_owed 34 = .ok (.iinc 3 1, 3) := by decide +kernel
theorem dX3_owed_37 : decode cX3_owed 37 = .ok (.goto (-33), 3) := by decide +kernel
theorem dX3_owed_40 : decode cX3_owed 40 = .ok (.iload_n 2, 1) := by decide +kernel
theorem dX3_owed_41 : decode cX3_owed 41 = .ok (.ireturn, 1) := by decide +kernel
theorem dX3_owes_0 : decode cX3_owes 0 = .ok (.aload_n 0, 1) := by decide +kernel
theorem dX3_owes_1 : decode cX3_owes 1 = .ok (.iconst 0, 1) := by decide +kernel
theorem dX3_owes_2 : decode cX3_owes 2 = .ok (.putfield 44, 3) := by decide +kernel
theorem dX3_owes_5 : decode cX3_owes 5 = .ok (.aload_n 0, 1) := by decide +kernel
theorem dX3_owes_6 : decode cX3_owes 6 = .ok (.iload_n 1, 1) := by decide +kernel
theorem dX3_owes_7 : decode cX3_owes 7 = .ok (.invokevirtual 108, 3) := by decide +kernel
theorem dX3_owes_10 : decode cX3_owes 10 = .ok (.ifCond .eq 11, 3) := by decide +kernel
theorem dX3_owes_13 : decode cX3_owes 13 = .ok (.aload_n 0, 1) := by decide +kernel
theorem dX3_owes_14 : decode cX3_owes 14 = .ok (.iload_n 1, 1) := by decide +kernel
theorem dX3_owes_15 : decode cX3_owes 15 = .ok (.invokevirtual 178, 3) := by decide +kernel
theorem dX3_owes_18 : decode cX3_owes 18 = .ok (.goto 8, 3) := by decide +kernel
theorem dX3_owes_21 : decode cX3_owes 21 = .ok (.aload_n 0, 1) := by decide +kernel
theorem dX3_owes_22 : decode cX3_owes 22 = .ok (.iconst 1, 1) := by decide +kernel
theorem dX3_owes_23 : decode cX3_owes 23 = .ok (.invokevirtual 105, 3) := by decide +kernel
theorem dX3_owes_26 : decode cX3_owes 26 = .ok (.ireturn, 1) := by decide +kernel
theorem dX3_between_0 : decode cX3_between 0 = .ok (.iconst 0, 1) := by decide +kernel
theorem dX3_between_1 : decode cX3_between 1 = .ok (.istore_n 3, 1) := by decide +kernel
theorem dX3_between_2 : decode cX3_between 2 = .ok (.iconst 0, 1) := by decide +kernel
theorem dX3_between_3 : decode cX3_between 3 = .ok (.istore 4, 2) := by decide +kernel
theorem dX3_between_5 : decode cX3_between 5 = .ok (.iload 4, 2) := by decide +kernel
theorem dX3_between_7 : decode cX3_between 7 = .ok (.aload_n 0, 1) := by decide +kernel
theorem dX3_between_8 : decode cX3_between 8 = .ok (.getfield 55, 3) := by decide +kernel
theorem dX3_between_11 : decode cX3_between 11 = .ok (.if_icmp .ge 71, 3) := by decide +kernel
theorem dX3_between_14 : decode cX3_between 14 = .ok (.aload_n 0, 1) := by decide +kernel
theorem dX3_between_15 : decode cX3_between 15 = .ok (.getfield 9, 3) := by decide +kernel
theorem dX3_between_18 : decode cX3_between 18 = .ok (.iload 4, 2) := by decide +kernel
theorem dX3_between_20 : decode cX3_between 20 = .ok (.iaload, 1) := by decide +kernel
theorem dX3_between_21 : decode cX3_between 21 = .ok (.iload_n 2, 1) := by decide +kernel
theorem dX3_between_22 : decode cX3_between 22 = .ok (.if_icmp .ne 23, 3) := by decide +kernel
theorem dX3_between_25 : decode cX3_between 25 = .ok (.aload_n 0, 1) := by decide +kernel
theorem dX3_between_26 : decode cX3_between 26 = .ok (.getfield 13, 3) := by decide +kernel
theorem dX3_between_29 : decode cX3_between 29 = .ok (.iload 4, 2) := by decide +kernel
theorem dX3_between_31 : decode cX3_between 31 = .ok (.iaload, 1) := by decide +kernel
theorem dX3_between_32 : decode cX3_between 32 = .ok (.iload_n 1, 1) := by decide +kernel
theorem dX3_between_33 : decode cX3_between 33 = .ok (.if_icmp .ne 12, 3) := by decide +kernel
theorem dX3_between_36 : decode cX3_between 36 = .ok (.iload_n 3, 1) := by decide +kernel
theorem dX3_between_37 : decode cX3_between 37 = .ok (.aload_n 0, 1) := by decide +kernel
theorem dX3_between_38 : decode cX3_between 38 = .ok (.iload 4, 2) := by decide +kernel
theorem dX3_between_40 : decode cX3_between 40 = .ok (.invokevirtual 72, 3) := by decide +kernel
theorem dX3_between_43 : decode cX3_between 43 = .ok (.iadd, 1) := by decide +kernel
theorem dX3_between_44 : decode cX3_between 44 = .ok (.istore_n 3, 1) := by decide +kernel
theorem dX3_between_45 : decode cX3_between 45 = .ok (.aload_n 0, 1) := by decide +kernel
theorem dX3_between_46 : decode cX3_between 46 = .ok (.getfield 9, 3) := by decide +kernel
theorem dX3_between_49 : decode cX3_between 49 = .ok (.iload 4, 2) := by decide +kernel
theorem dX3_between_51 : decode cX3_between 51 = .ok (.iaload, 1) := by decide +kernel
theorem dX3_between_52 : decode cX3_between 52 = .ok (.iload_n 1, 1) := by decide +kernel
theorem dX3_between_53 : decode cX3_between 53 = .ok (.if_icmp .ne 23, 3) := by decide +kernel
theorem dX3_between_56 : decode cX3_between 56 = .ok (.aload_n 0, 1) := by decide +kernel
theorem dX3_between_57 : decode cX3_between 57 = .ok (.getfield 13, 3) := by decide +kernel
theorem dX3_between_60 : decode cX3_between 60 = .ok (.iload 4, 2) := by decide +kernel
theorem dX3_between_62 : decode cX3_between 62 = .ok (.iaload, 1) := by decide +kernel
theorem dX3_between_63 : decode cX3_between 63 = .ok (.iload_n 2, 1) := by decide +kernel
theorem dX3_between_64 : decode cX3_between 64 = .ok (.if_icmp .ne 12, 3) := by decide +kernel
theorem dX3_between_67 : decode cX3_between 67 = .ok (.iload_n 3, 1) := by decide +kernel
theorem dX3_between_68 : decode cX3_between 68 = .ok (.aload_n 0, 1) := by decide +kernel
theorem dX3_between_69 : decode cX3_between 69 = .ok (.iload 4, 2) := by decide +kernel
theorem dX3_between_71 : decode cX3_between 71 = .ok (.invokevirtual 72, 3) := by decide +kernel
theorem dX3_between_74 : decode cX3_between 74 = .ok (.isub, 1) := by decide +kernel
theorem dX3_between_75 : decode cX3_between 75 = .ok (.istore_n 3, 1) := by decide +kernel
theorem dX3_between_76 : decode cX3_between 76 = .ok (.iinc 4 1, 3) := by decide +kernel
theorem dX3_between_79 : decode cX3_between 79 = .ok (.goto (-74), 3) := by decide +kernel
theorem dX3_between_82 : decode cX3_between 82 = .ok (.iload_n 3, 1) := by decide +kernel
theorem dX3_between_83 : decode cX3_between 83 = .ok (.ireturn, 1) := by decide +kernel
theorem dX3_balance_0 : decode cX3_balance 0 = .ok (.aload_n 0, 1) := by decide +kernel
theorem dX3_balance_1 : decode cX3_balance 1 = .ok (.iconst 0, 1) := by decide +kernel
theorem dX3_balance_2 : decode cX3_balance 2 = .ok (.putfield 44, 3) := by decide +kernel
theorem dX3_balance_5 : decode cX3_balance 5 = .ok (.aload_n 0, 1) := by decide +kernel
theorem dX3_balance_6 : decode cX3_balance 6 = .ok (.iload_n 1, 1) := by decide +kernel
theorem dX3_balance_7 : decode cX3_balance 7 = .ok (.invokevirtual 108, 3) := by decide +kernel
theorem dX3_balance_10 : decode cX3_balance 10 = .ok (.ifCond .eq 20, 3) := by decide +kernel
theorem dX3_balance_13 : decode cX3_balance 13 = .ok (.aload_n 0, 1) := by decide +kernel
theorem dX3_balance_14 : decode cX3_balance 14 = .ok (.iload_n 2, 1) := by decide +kernel
theorem dX3_balance_15 : decode cX3_balance 15 = .ok (.invokevirtual 108, 3) := by decide +kernel
theorem dX3_balance_18 : decode cX3_balance 18 = .ok (.ifCond .eq 12, 3) := by decide +kernel
theorem dX3_balance_21 : decode cX3_balance 21 = .ok (.aload_n 0, 1) := by decide +kernel
theorem dX3_balance_22 : decode cX3_balance 22 = .ok (.iload_n 1, 1) := by decide +kernel
theorem dX3_balance_23 : decode cX3_balance 23 = .ok (.iload_n 2, 1) := by decide +kernel
theorem dX3_balance_24 : decode cX3_balance 24 = .ok (.invokevirtual 181, 3) := by decide +kernel
theorem dX3_balance_27 : decode cX3_balance 27 = .ok (.goto 8, 3) := by decide +kernel
theorem dX3_balance_30 : decode cX3_balance 30 = .ok (.aload_n 0, 1) := by decide +kernel
theorem dX3_balance_31 : decode cX3_balance 31 = .ok (.iconst 1, 1) := by decide +kernel
theorem dX3_balance_32 : decode cX3_balance 32 = .ok (.invokevirtual 105, 3) := by decide +kernel
theorem dX3_balance_35 : decode cX3_balance 35 = .ok (.ireturn, 1) := by decide +kernel
theorem dX3_weak_0 : decode cX3_weak 0 = .ok (.iconst (-1), 1) := by decide +kernel
theorem dX3_weak_1 : decode cX3_weak 1 = .ok (.istore_n 1, 1) := by decide +kernel
theorem dX3_weak_2 : decode cX3_weak 2 = .ok (.iconst 0, 1) := by decide +kernel
theorem dX3_weak_3 : decode cX3_weak 3 = .ok (.istore_n 2, 1) := by decide +kernel
theorem dX3_weak_4 : decode cX3_weak 4 = .ok (.iconst 0, 1) := by decide +kernel
theorem dX3_weak_5 : decode cX3_weak 5 = .ok (.istore_n 3, 1) := by decide +kernel
theorem dX3_weak_6 : decode cX3_weak 6 = .ok (.iload_n 3, 1) := by decide +kernel
theorem dX3_weak_7 : decode cX3_weak 7 = .ok (.aload_n 0, 1) := by decide +kernel
theorem dX3_weak_8 : decode cX3_weak 8 = .ok (.getfield 48, 3) := by decide +kernel
theorem dX3_weak_11 : decode cX3_weak 11 = .ok (.if_icmp .ge 39, 3) := by decide +kernel
theorem dX3_weak_14 : decode cX3_weak 14 = .ok (.aload_n 0, 1) := by decide +kernel
theorem dX3_weak_15 : decode cX3_weak 15 = .ok (.iload_n 3, 1) := by decide +kernel
theorem dX3_weak_16 : decode cX3_weak 16 = .ok (.invokevirtual 178, 3) := by decide +kernel
theorem dX3_weak_19 : decode cX3_weak 19 = .ok (.aload_n 0, 1) := by decide +kernel
theorem dX3_weak_20 : decode cX3_weak 20 = .ok (.getfield 31, 3) := by decide +kernel
theorem dX3_weak_23 : decode cX3_weak 23 = .ok (.iconst 2, 1) := by decide +kernel
theorem dX3_weak_24 : decode cX3_weak 24 = .ok (.iload_n 3, 1) := by decide +kernel
theorem dX3_weak_25 : decode cX3_weak 25 = .ok (.iadd, 1) := by decide +kernel
theorem dX3_weak_26 : decode cX3_weak 26 = .ok (.iaload, 1) := by decide +kernel
theorem dX3_weak_27 : decode cX3_weak 27 = .ok (.isub, 1) := by decide +kernel
theorem dX3_weak_28 : decode cX3_weak 28 = .ok (.istore 4, 2) := by decide +kernel
theorem dX3_weak_30 : decode cX3_weak 30 = .ok (.iload 4, 2) := by decide +kernel
theorem dX3_weak_32 : decode cX3_weak 32 = .ok (.iload_n 2, 1) := by decide +kernel
theorem dX3_weak_33 : decode cX3_weak 33 = .ok (.if_icmp .gt 6, 3) := by decide +kernel
theorem dX3_weak_36 : decode cX3_weak 36 = .ok (.goto 8, 3) := by decide +kernel
theorem dX3_weak_39 : decode cX3_weak 39 = .ok (.iload_n 3, 1) := by decide +kernel
theorem dX3_weak_40 : decode cX3_weak 40 = .ok (.istore_n 1, 1) := by decide +kernel
theorem dX3_weak_41 : decode cX3_weak 41 = .ok (.iload 4, 2) := by decide +kernel
theorem dX3_weak_43 : decode cX3_weak 43 = .ok (.istore_n 2, 1) := by decide +kernel
theorem dX3_weak_44 : decode cX3_weak 44 = .ok (.iinc 3 1, 3) := by decide +kernel
theorem dX3_weak_47 : decode cX3_weak 47 = .ok (.goto (-41), 3) := by decide +kernel
theorem dX3_weak_50 : decode cX3_weak 50 = .ok (.iload_n 1, 1) := by decide +kernel
theorem dX3_weak_51 : decode cX3_weak 51 = .ok (.ireturn, 1) := by decide +kernel
theorem dX3_weakest_0 : decode cX3_weakest 0 = .ok (.aload_n 0, 1) := by decide +kernel
theorem dX3_weakest_1 : decode cX3_weakest 1 = .ok (.aload_n 0, 1) := by decide +kernel
theorem dX3_weakest_2 : decode cX3_weakest 2 = .ok (.invokevirtual 184, 3) := by decide +kernel
theorem dX3_weakest_5 : decode cX3_weakest 5 = .ok (.invokevirtual 126, 3) := by decide +kernel
theorem dX3_weakest_8 : decode cX3_weakest 8 = .ok (.ireturn, 1) := by decide +kernel
theorem dX3_untilFailed_0 : decode cX3_untilFailed 0 = .ok (.aload_n 0, 1) := by decide +kernel
theorem dX3_untilFailed_1 : decode cX3_untilFailed 1 = .ok (.iload_n 1, 1) := by decide +kernel
theorem dX3_untilFailed_2 : decode cX3_untilFailed 2 = .ok (.invokevirtual 64, 3) := by decide +kernel
theorem dX3_untilFailed_5 : decode cX3_untilFailed 5 = .ok (.iconst 4, 1) := by decide +kernel
theorem dX3_untilFailed_6 : decode cX3_untilFailed 6 = .ok (.if_icmp .ne 5, 3) := by decide +kernel
theorem dX3_untilFailed_9 : decode cX3_untilFailed 9 = .ok (.iconst (-1), 1) := by decide +kernel
theorem dX3_untilFailed_10 : decode cX3_untilFailed 10 = .ok (.ireturn, 1) := by decide +kernel
theorem dX3_untilFailed_11 : decode cX3_untilFailed 11 = .ok (.aload_n 0, 1) := by decide +kernel
theorem dX3_untilFailed_12 : decode cX3_untilFailed 12 = .ok (.invokevirtual 187, 3) := by decide +kernel
theorem dX3_untilFailed_15 : decode cX3_untilFailed 15 = .ok (.iconst (-1), 1) := by decide +kernel
theorem dX3_untilFailed_16 : decode cX3_untilFailed 16 = .ok (.istore_n 2, 1) := by decide +kernel
theorem dX3_untilFailed_17 : decode cX3_untilFailed 17 = .ok (.iconst 1, 1) := by decide +kernel
theorem dX3_untilFailed_18 : decode cX3_untilFailed 18 = .ok (.istore_n 3, 1) := by decide +kernel
theorem dX3_untilFailed_19 : decode cX3_untilFailed 19 = .ok (.iload_n 3, 1) := by decide +kernel
theorem dX3_untilFailed_20 : decode cX3_untilFailed 20 = .ok (.bipush 60, 2) := by decide +kernel
theorem dX3_untilFailed_22 : decode cX3_untilFailed 22 = .ok (.if_icmp .gt 29, 3) := by decide +kernel
theorem dX3_untilFailed_25 : decode cX3_untilFailed 25 = .ok (.iload_n 2, 1) := by decide +kernel
theorem dX3_untilFailed_26 : decode cX3_untilFailed 26 = .ok (.iconst (-1), 1) := by decide +kernel
theorem dX3_untilFailed_27 : decode cX3_untilFailed 27 = .ok (.if_icmp .ne 24, 3) := by decide +kernel
theorem dX3_untilFailed_30 : decode cX3_untilFailed 30 = .ok (.aload_n 0, 1) := by decide +kernel
theorem dX3_untilFailed_31 : decode cX3_untilFailed 31 = .ok (.invokevirtual 102, 3) := by decide +kernel
theorem dX3_untilFailed_34 : decode cX3_untilFailed 34 = .ok (.aload_n 0, 1) := by decide +kernel
theorem dX3_untilFailed_35 : decode cX3_untilFailed 35 = .ok (.iload_n 1, 1) := by decide +kernel
theorem dX3_untilFailed_36 : decode cX3_untilFailed 36 = .ok (.invokevirtual 64, 3) := by decide +kernel
theorem dX3_untilFailed_39 : decode cX3_untilFailed 39 = .ok (.iconst 4, 1) := by decide +kernel
theorem dX3_untilFailed_40 : decode cX3_untilFailed 40 = .ok (.if_icmp .ne 5, 3) := by decide +kernel
theorem dX3_untilFailed_43 : decode cX3_untilFailed 43 = .ok (.iload_n 3, 1) := by decide +kernel
theorem dX3_untilFailed_44 : decode cX3_untilFailed 44 = .ok (.istore_n 2, 1) := by decide +kernel
theorem dX3_untilFailed_45 : decode cX3_untilFailed 45 = .ok (.iinc 3 1, 3) := by decide +kernel
theorem dX3_untilFailed_48 : decode cX3_untilFailed 48 = .ok (.goto (-29), 3) := by decide +kernel
theorem dX3_untilFailed_51 : decode cX3_untilFailed 51 = .ok (.aload_n 0, 1) := by decide +kernel
theorem dX3_untilFailed_52 : decode cX3_untilFailed 52 = .ok (.invokevirtual 190, 3) := by decide +kernel
theorem dX3_untilFailed_55 : decode cX3_untilFailed 55 = .ok (.iload_n 2, 1) := by decide +kernel
theorem dX3_untilFailed_56 : decode cX3_untilFailed 56 = .ok (.ireturn, 1) := by decide +kernel
theorem dX3_daysUntilFailed_0 : decode cX3_daysUntilFailed 0 = .ok (.aload_n 0, 1) := by decide +kernel
theorem dX3_daysUntilFailed_1 : decode cX3_daysUntilFailed 1 = .ok (.iconst 0, 1) := by decide +kernel
theorem dX3_daysUntilFailed_2 : decode cX3_daysUntilFailed 2 = .ok (.putfield 44, 3) := by decide +kernel
theorem dX3_daysUntilFailed_5 : decode cX3_daysUntilFailed 5 = .ok (.aload_n 0, 1) := by decide +kernel
theorem dX3_daysUntilFailed_6 : decode cX3_daysUntilFailed 6 = .ok (.iload_n 1, 1) := by decide +kernel
theorem dX3_daysUntilFailed_7 : decode cX3_daysUntilFailed 7 = .ok (.invokevirtual 111, 3) := by decide +kernel
theorem dX3_daysUntilFailed_10 : decode cX3_daysUntilFailed 10 = .ok (.ifCond .eq 11, 3) := by decide +kernel
theorem dX3_daysUntilFailed_13 : decode cX3_daysUntilFailed 13 = .ok (.aload_n 0, 1) := by decide +kernel
theorem dX3_daysUntilFailed_14 : decode cX3_daysUntilFailed 14 = .ok (.iload_n 1, 1) := by decide +kernel
theorem dX3_daysUntilFailed_15 : decode cX3_daysUntilFailed 15 = .ok (.invokevirtual 193, 3) := by decide +kernel
theorem dX3_daysUntilFailed_18 : decode cX3_daysUntilFailed 18 = .ok (.goto 8, 3) := by decide +kernel
theorem dX3_daysUntilFailed_21 : decode cX3_daysUntilFailed 21 = .ok (.aload_n 0, 1) := by decide +kernel
theorem dX3_daysUntilFailed_22 : decode cX3_daysUntilFailed 22 = .ok (.iconst 1, 1) := by decide +kernel
theorem dX3_daysUntilFailed_23 : decode cX3_daysUntilFailed 23 = .ok (.invokevirtual 105, 3) := by decide +kernel
theorem dX3_daysUntilFailed_26 : decode cX3_daysUntilFailed 26 = .ok (.ireturn, 1) := by decide +kernel
theorem dX3_later_0 : decode cX3_later 0 = .ok (.aload_n 0, 1) := by decide +kernel
theorem dX3_later_1 : decode cX3_later 1 = .ok (.invokevirtual 187, 3) := by decide +kernel
theorem dX3_later_4 : decode cX3_later 4 = .ok (.aload_n 0, 1) := by decide +kernel
theorem dX3_later_5 : decode cX3_later 5 = .ok (.iload_n 2, 1) := by decide +kernel
theorem dX3_later_6 : decode cX3_later 6 = .ok (.invokevirtual 123, 3) := by decide +kernel
theorem dX3_later_9 : decode cX3_later 9 = .ok (.aload_n 0, 1) := by decide +kernel
theorem dX3_later_10 : decode cX3_later 10 = .ok (.getfield 31, 3) := by decide +kernel
theorem dX3_later_13 : decode cX3_later 13 = .ok (.iconst 2, 1) := by decide +kernel
theorem dX3_later_14 : decode cX3_later 14 = .ok (.iload_n 1, 1) := by decide +kernel
theorem dX3_later_15 : decode cX3_later 15 = .ok (.iadd, 1) := by decide +kernel
theorem dX3_later_16 : decode cX3_later 16 = .ok (.iaload, 1) := by decide +kernel
theorem dX3_later_17 : decode cX3_later 17 = .ok (.istore_n 3, 1) := by decide +kernel
theorem dX3_later_18 : decode cX3_later 18 = .ok (.aload_n 0, 1) := by decide +kernel
theorem dX3_later_19 : decode cX3_later 19 = .ok (.invokevirtual 190, 3) := by decide +kernel
theorem dX3_later_22 : decode cX3_later 22 = .ok (.iload_n 3, 1) := by decide +kernel
theorem dX3_later_23 : decode cX3_later 23 = .ok (.ireturn, 1) := by decide +kernel
theorem dX3_purseIn_0 : decode cX3_purseIn 0 = .ok (.aload_n 0, 1) := by decide +kernel
theorem dX3_purseIn_1 : decode cX3_purseIn 1 = .ok (.iconst 0, 1) := by decide +kernel
theorem dX3_purseIn_2 : decode cX3_purseIn 2 = .ok (.putfield 44, 3) := by decide +kernel
theorem dX3_purseIn_5 : decode cX3_purseIn 5 = .ok (.aload_n 0, 1) := by decide +kernel
theorem dX3_purseIn_6 : decode cX3_purseIn 6 = .ok (.iload_n 1, 1) := by decide +kernel
theorem dX3_purseIn_7 : decode cX3_purseIn 7 = .ok (.invokevirtual 108, 3) := by decide +kernel
theorem dX3_purseIn_10 : decode cX3_purseIn 10 = .ok (.ifCond .ne 9, 3) := by decide +kernel
theorem dX3_purseIn_13 : decode cX3_purseIn 13 = .ok (.aload_n 0, 1) := by decide +kernel
theorem dX3_purseIn_14 : decode cX3_purseIn 14 = .ok (.iconst 1, 1) := by decide +kernel
theorem dX3_purseIn_15 : decode cX3_purseIn 15 = .ok (.invokevirtual 105, 3) := by decide +kernel
theorem dX3_purseIn_18 : decode cX3_purseIn 18 = .ok (.ireturn, 1) := by decide +kernel
theorem dX3_purseIn_19 : decode cX3_purseIn 19 = .ok (.iload_n 2, 1) := by decide +kernel
theorem dX3_purseIn_20 : decode cX3_purseIn 20 = .ok (.iconst 1, 1) := by decide +kernel
theorem dX3_purseIn_21 : decode cX3_purseIn 21 = .ok (.bipush 60, 2) := by decide +kernel
theorem dX3_purseIn_23 : decode cX3_purseIn 23 = .ok (.invokestatic 51, 3) := by decide +kernel
theorem dX3_purseIn_26 : decode cX3_purseIn 26 = .ok (.ifCond .eq 12, 3) := by decide +kernel
theorem dX3_purseIn_29 : decode cX3_purseIn 29 = .ok (.aload_n 0, 1) := by decide +kernel
theorem dX3_purseIn_30 : decode cX3_purseIn 30 = .ok (.iload_n 1, 1) := by decide +kernel
theorem dX3_purseIn_31 : decode cX3_purseIn 31 = .ok (.iload_n 2, 1) := by decide +kernel
theorem dX3_purseIn_32 : decode cX3_purseIn 32 = .ok (.invokevirtual 196, 3) := by decide +kernel
theorem dX3_purseIn_35 : decode cX3_purseIn 35 = .ok (.goto 8, 3) := by decide +kernel
theorem dX3_purseIn_38 : decode cX3_purseIn 38 = .ok (.aload_n 0, 1) := by decide +kernel
theorem dX3_purseIn_39 : decode cX3_purseIn 39 = .ok (.iconst 2, 1) := by decide +kernel
theorem dX3_purseIn_40 : decode cX3_purseIn 40 = .ok (.invokevirtual 105, 3) := by decide +kernel
theorem dX3_purseIn_43 : decode cX3_purseIn 43 = .ok (.ireturn, 1) := by decide +kernel
theorem dX3_best_0 : decode cX3_best 0 = .ok (.iconst (-1), 1) := by decide +kernel
theorem dX3_best_1 : decode cX3_best 1 = .ok (.istore_n 2, 1) := by decide +kernel
theorem dX3_best_2 : decode cX3_best 2 = .ok (.aload_n 0, 1) := by decide +kernel
theorem dX3_best_3 : decode cX3_best 3 = .ok (.iload_n 1, 1) := by decide +kernel
theorem dX3_best_4 : decode cX3_best 4 = .ok (.bipush 60, 2) := by decide +kernel
theorem dX3_best_6 : decode cX3_best 6 = .ok (.invokevirtual 196, 3) := by decide +kernel
theorem dX3_best_9 : decode cX3_best 9 = .ok (.istore_n 3, 1) := by decide +kernel
theorem dX3_best_10 : decode cX3_best 10 = .ok (.iconst 0, 1) := by decide +kernel
theorem dX3_best_11 : decode cX3_best 11 = .ok (.istore 4, 2) := by decide +kernel
theorem dX3_best_13 : decode cX3_best 13 = .ok (.iload 4, 2) := by decide +kernel
theorem dX3_best_15 : decode cX3_best 15 = .ok (.aload_n 0, 1) := by decide +kernel
theorem dX3_best_16 : decode cX3_best 16 = .ok (.getfield 55, 3) := by decide +kernel
theorem dX3_best_19 : decode cX3_best 19 = .ok (.if_icmp .ge 77, 3) := by decide +kernel
theorem dX3_best_22 : decode cX3_best 22 = .ok (.aload_n 0, 1) := by decide +kernel
theorem dX3_best_23 : decode cX3_best 23 = .ok (.getfield 9, 3) := by decide +kernel
theorem dX3_best_26 : decode cX3_best 26 = .ok (.iload 4, 2) := by decide +kernel
theorem dX3_best_28 : decode cX3_best 28 = .ok (.iaload, 1) := by decide +kernel
theorem dX3_best_29 : decode cX3_best 29 = .ok (.iload_n 1, 1) := by decide +kernel
theorem dX3_best_30 : decode cX3_best 30 = .ok (.if_icmp .ne 60, 3) := by decide +kernel
theorem dX3_best_33 : decode cX3_best 33 = .ok (.aload_n 0, 1) := by decide +kernel
theorem dX3_best_34 : decode cX3_best 34 = .ok (.iload 4, 2) := by decide +kernel
theorem dX3_best_36 : decode cX3_best 36 = .ok (.invokevirtual 114, 3) := by decide +kernel
theorem dX3_best_39 : decode cX3_best 39 = .ok (.ifCond .ne 6, 3) := by decide +kernel
theorem dX3_best_42 : decode cX3_best 42 = .ok (.goto 48, 3) := by decide +kernel
theorem dX3_best_45 : decode cX3_best 45 = .ok (.aload_n 0, 1) := by decide +kernel
theorem dX3_best_46 : decode cX3_best 46 = .ok (.invokevirtual 187, 3) := by decide +kernel
theorem dX3_best_49 : decode cX3_best 49 = .ok (.aload_n 0, 1) := by decide +kernel
theorem dX3_best_50 : decode cX3_best 50 = .ok (.iload 4, 2) := by decide +kernel
theorem dX3_best_52 : decode cX3_best 52 = .ok (.invokevirtual 117, 3) := by decide +kernel
theorem dX3_best_55 : decode cX3_best 55 = .ok (.aload_n 0, 1) := by decide +kernel
theorem dX3_best_56 : decode cX3_best 56 = .ok (.bipush 60, 2) := by decide +kernel
theorem dX3_best_58 : decode cX3_best 58 = .ok (.invokevirtual 123, 3) := by decide +kernel
theorem dX3_best_61 : decode cX3_best 61 = .ok (.aload_n 0, 1) := by decide +kernel
theorem dX3_best_62 : decode cX3_best 62 = .ok (.getfield 31, 3) := by decide +kernel
theorem dX3_best_65 : decode cX3_best 65 = .ok (.iconst 2, 1) := by decide +kernel
theorem dX3_best_66 : decode cX3_best 66 = .ok (.iload_n 1, 1) := by decide +kernel
theorem dX3_best_67 : decode cX3_best 67 = .ok (.iadd, 1) := by decide +kernel
theorem dX3_best_68 : decode cX3_best 68 = .ok (.iaload, 1) := by decide +kernel
theorem dX3_best_69 : decode cX3_best 69 = .ok (.istore 5, 2) := by decide +kernel
theorem dX3_best_71 : decode cX3_best 71 = .ok (.aload_n 0, 1) := by decide +kernel
theorem dX3_best_72 : decode cX3_best 72 = .ok (.invokevirtual 190, 3) := by decide +kernel
theorem dX3_best_75 : decode cX3_best 75 = .ok (.iload 5, 2) := by decide +kernel
theorem dX3_best_77 : decode cX3_best 77 = .ok (.iload_n 3, 1) := by decide +kernel
theorem dX3_best_78 : decode cX3_best 78 = .ok (.if_icmp .gt 6, 3) := by decide +kernel
theorem dX3_best_81 : decode cX3_best 81 = .ok (.goto 9, 3) := by decide +kernel
theorem dX3_best_84 : decode cX3_best 84 = .ok (.iload 4, 2) := by decide +kernel
theorem dX3_best_86 : decode cX3_best 86 = .ok (.istore_n 2, 1) := by decide +kernel
theorem dX3_best_87 : decode cX3_best 87 = .ok (.iload 5, 2) := by decide +kernel
theorem dX3_best_89 : decode cX3_best 89 = .ok (.istore_n 3, 1) := by decide +kernel
theorem dX3_best_90 : decode cX3_best 90 = .ok (.iinc 4 1, 3) := by decide +kernel
theorem dX3_best_93 : decode cX3_best 93 = .ok (.goto (-80), 3) := by decide +kernel
theorem dX3_best_96 : decode cX3_best 96 = .ok (.iload_n 2, 1) := by decide +kernel
theorem dX3_best_97 : decode cX3_best 97 = .ok (.ireturn, 1) := by decide +kernel
theorem dX3_bestToPay_0 : decode cX3_bestToPay 0 = .ok (.aload_n 0, 1) := by decide +kernel
theorem dX3_bestToPay_1 : decode cX3_bestToPay 1 = .ok (.iconst 0, 1) := by decide +kernel
theorem dX3_bestToPay_2 : decode cX3_bestToPay 2 = .ok (.putfield 44, 3) := by decide +kernel
theorem dX3_bestToPay_5 : decode cX3_bestToPay 5 = .ok (.aload_n 0, 1) := by decide +kernel
theorem dX3_bestToPay_6 : decode cX3_bestToPay 6 = .ok (.iload_n 1, 1) := by decide +kernel
theorem dX3_bestToPay_7 : decode cX3_bestToPay 7 = .ok (.invokevirtual 108, 3) := by decide +kernel
theorem dX3_bestToPay_10 : decode cX3_bestToPay 10 = .ok (.ifCond .eq 11, 3) := by decide +kernel
theorem dX3_bestToPay_13 : decode cX3_bestToPay 13 = .ok (.aload_n 0, 1) := by decide +kernel
theorem dX3_bestToPay_14 : decode cX3_bestToPay 14 = .ok (.iload_n 1, 1) := by decide +kernel
theorem dX3_bestToPay_15 : decode cX3_bestToPay 15 = .ok (.invokevirtual 199, 3) := by decide +kernel
theorem dX3_bestToPay_18 : decode cX3_bestToPay 18 = .ok (.goto 8, 3) := by decide +kernel
theorem dX3_bestToPay_21 : decode cX3_bestToPay 21 = .ok (.aload_n 0, 1) := by decide +kernel
theorem dX3_bestToPay_22 : decode cX3_bestToPay 22 = .ok (.iconst 1, 1) := by decide +kernel
theorem dX3_bestToPay_23 : decode cX3_bestToPay 23 = .ok (.invokevirtual 105, 3) := by decide +kernel
theorem dX3_bestToPay_26 : decode cX3_bestToPay 26 = .ok (.ireturn, 1) := by decide +kernel
theorem dX3_meanPurse_0 : decode cX3_meanPurse 0 = .ok (.aload_n 0, 1) := by decide +kernel
theorem dX3_meanPurse_1 : decode cX3_meanPurse 1 = .ok (.iconst 0, 1) := by decide +kernel
theorem dX3_meanPurse_2 : decode cX3_meanPurse 2 = .ok (.putfield 44, 3) := by decide +kernel
theorem dX3_meanPurse_5 : decode cX3_meanPurse 5 = .ok (.iconst 0, 1) := by decide +kernel
theorem dX3_meanPurse_6 : decode cX3_meanPurse 6 = .ok (.istore_n 1, 1) := by decide +kernel
theorem dX3_meanPurse_7 : decode cX3_meanPurse 7 = .ok (.iconst 0, 1) := by decide +kernel
theorem dX3_meanPurse_8 : decode cX3_meanPurse 8 = .ok (.istore_n 2, 1) := by decide +kernel
theorem dX3_meanPurse_9 : decode cX3_meanPurse 9 = .ok (.iload_n 2, 1) := by decide +kernel
theorem dX3_meanPurse_10 : decode cX3_meanPurse 10 = .ok (.aload_n 0, 1) := by decide +kernel
theorem dX3_meanPurse_11 : decode cX3_meanPurse 11 = .ok (.getfield 48, 3) := by decide +kernel
theorem dX3_meanPurse_14 : decode cX3_meanPurse 14 = .ok (.if_icmp .ge 20, 3) := by decide +kernel
theorem dX3_meanPurse_17 : decode cX3_meanPurse 17 = .ok (.iload_n 1, 1) := by decide +kernel
theorem dX3_meanPurse_18 : decode cX3_meanPurse 18 = .ok (.aload_n 0, 1) := by decide +kernel
theorem dX3_meanPurse_19 : decode cX3_meanPurse 19 = .ok (.getfield 31, 3) := by decide +kernel
theorem dX3_meanPurse_22 : decode cX3_meanPurse 22 = .ok (.iconst 2, 1) := by decide +kernel
theorem dX3_meanPurse_23 : decode cX3_meanPurse 23 = .ok (.iload_n 2, 1) := by decide +kernel
theorem dX3_meanPurse_24 : decode cX3_meanPurse 24 = .ok (.iadd, 1) := by decide +kernel
theorem dX3_meanPurse_25 : decode cX3_meanPurse 25 = .ok (.iaload, 1) := by decide +kernel
theorem dX3_meanPurse_26 : decode cX3_meanPurse 26 = .ok (.iadd, 1) := by decide +kernel
theorem dX3_meanPurse_27 : decode cX3_meanPurse 27 = .ok (.istore_n 1, 1) := by decide +kernel
theorem dX3_meanPurse_28 : decode cX3_meanPurse 28 = .ok (.iinc 2 1, 3) := by decide +kernel
theorem dX3_meanPurse_31 : decode cX3_meanPurse 31 = .ok (.goto (-22), 3) := by decide +kernel
theorem dX3_meanPurse_34 : decode cX3_meanPurse 34 = .ok (.aload_n 0, 1) := by decide +kernel
theorem dX3_meanPurse_35 : decode cX3_meanPurse 35 = .ok (.getfield 48, 3) := by decide +kernel
theorem dX3_meanPurse_38 : decode cX3_meanPurse 38 = .ok (.ifCond .ne 7, 3) := by decide +kernel
theorem dX3_meanPurse_41 : decode cX3_meanPurse 41 = .ok (.dconst 0, 1) := by decide +kernel
theorem dX3_meanPurse_42 : decode cX3_meanPurse 42 = .ok (.goto 11, 3) := by decide +kernel
theorem dX3_meanPurse_45 : decode cX3_meanPurse 45 = .ok (.iload_n 1, 1) := by decide +kernel
theorem dX3_meanPurse_46 : decode cX3_meanPurse 46 = .ok (.i2d, 1) := by decide +kernel
theorem dX3_meanPurse_47 : decode cX3_meanPurse 47 = .ok (.aload_n 0, 1) := by decide +kernel
theorem dX3_meanPurse_48 : decode cX3_meanPurse 48 = .ok (.getfield 48, 3) := by decide +kernel
theorem dX3_meanPurse_51 : decode cX3_meanPurse 51 = .ok (.i2d, 1) := by decide +kernel
theorem dX3_meanPurse_52 : decode cX3_meanPurse 52 = .ok (.ddiv, 1) := by decide +kernel
theorem dX3_meanPurse_53 : decode cX3_meanPurse 53 = .ok (.dreturn, 1) := by decide +kernel
theorem dX3_digest_0 : decode cX3_digest 0 = .ok (.aload_n 0, 1) := by decide +kernel
theorem dX3_digest_1 : decode cX3_digest 1 = .ok (.iconst 0, 1) := by decide +kernel
theorem dX3_digest_2 : decode cX3_digest 2 = .ok (.putfield 44, 3) := by decide +kernel
theorem dX3_digest_5 : decode cX3_digest 5 = .ok (.ldc2_w 202, 3) := by decide +kernel
theorem dX3_digest_8 : decode cX3_digest 8 = .ok (.aload_n 0, 1) := by decide +kernel
theorem dX3_digest_9 : decode cX3_digest 9 = .ok (.getfield 31, 3) := by decide +kernel
theorem dX3_digest_12 : decode cX3_digest 12 = .ok (.iconst 0, 1) := by decide +kernel
theorem dX3_digest_13 : decode cX3_digest 13 = .ok (.iaload, 1) := by decide +kernel
theorem dX3_digest_14 : decode cX3_digest 14 = .ok (.i2l, 1) := by decide +kernel
theorem dX3_digest_15 : decode cX3_digest 15 = .ok (.ladd, 1) := by decide +kernel
theorem dX3_digest_16 : decode cX3_digest 16 = .ok (.ldc2_w 204, 3) := by decide +kernel
theorem dX3_digest_19 : decode cX3_digest 19 = .ok (.lmul, 1) := by decide +kernel
theorem dX3_digest_20 : decode cX3_digest 20 = .ok (.aload_n 0, 1) := by decide +kernel
theorem dX3_digest_21 : decode cX3_digest 21 = .ok (.getfield 48, 3) := by decide +kernel
theorem dX3_digest_24 : decode cX3_digest 24 = .ok (.i2l, 1) := by decide +kernel
theorem dX3_digest_25 : decode cX3_digest 25 = .ok (.ladd, 1) := by decide +kernel
theorem dX3_digest_26 : decode cX3_digest 26 = .ok (.ldc2_w 204, 3) := by decide +kernel
theorem dX3_digest_29 : decode cX3_digest 29 = .ok (.lmul, 1) := by decide +kernel
theorem dX3_digest_30 : decode cX3_digest 30 = .ok (.aload_n 0, 1) := by decide +kernel
theorem dX3_digest_31 : decode cX3_digest 31 = .ok (.getfield 55, 3) := by decide +kernel
theorem dX3_digest_34 : decode cX3_digest 34 = .ok (.i2l, 1) := by decide +kernel
theorem dX3_digest_35 : decode cX3_digest 35 = .ok (.ladd, 1) := by decide +kernel
theorem dX3_digest_36 : decode cX3_digest 36 = .ok (.lstore_n 1, 1) := by decide +kernel
theorem dX3_digest_37 : decode cX3_digest 37 = .ok (.iconst 0, 1) := by decide +kernel
theorem dX3_digest_38 : decode cX3_digest 38 = .ok (.istore_n 3, 1) := by decide +kernel
theorem dX3_digest_39 : decode cX3_digest 39 = .ok (.iload_n 3, 1) := by decide +kernel
theorem dX3_digest_40 : decode cX3_digest 40 = .ok (.iconst 5, 1) := by decide +kernel
theorem dX3_digest_41 : decode cX3_digest 41 = .ok (.if_icmp .gt 22, 3) := by decide +kernel
theorem dX3_digest_44 : decode cX3_digest 44 = .ok (.lload_n 1, 1) := by decide +kernel
theorem dX3_digest_45 : decode cX3_digest 45 = .ok (.ldc2_w 204, 3) := by decide +kernel
theorem dX3_digest_48 : decode cX3_digest 48 = .ok (.lmul, 1) := by decide +kernel
theorem dX3_digest_49 : decode cX3_digest 49 = .ok (.aload_n 0, 1) := by decide +kernel
theorem dX3_digest_50 : decode cX3_digest 50 = .ok (.iload_n 3, 1) := by decide +kernel
theorem dX3_digest_51 : decode cX3_digest 51 = .ok (.invokevirtual 120, 3) := by decide +kernel
theorem dX3_digest_54 : decode cX3_digest 54 = .ok (.i2l, 1) := by decide +kernel
theorem dX3_digest_55 : decode cX3_digest 55 = .ok (.ladd, 1) := by decide +kernel
theorem dX3_digest_56 : decode cX3_digest 56 = .ok (.lstore_n 1, 1) := by decide +kernel
theorem dX3_digest_57 : decode cX3_digest 57 = .ok (.iinc 3 1, 3) := by decide +kernel
theorem dX3_digest_60 : decode cX3_digest 60 = .ok (.goto (-21), 3) := by decide +kernel
theorem dX3_digest_63 : decode cX3_digest 63 = .ok (.lload_n 1, 1) := by decide +kernel
theorem dX3_digest_64 : decode cX3_digest 64 = .ok (.ldc2_w 204, 3) := by decide +kernel
theorem dX3_digest_67 : decode cX3_digest 67 = .ok (.lmul, 1) := by decide +kernel
theorem dX3_digest_68 : decode cX3_digest 68 = .ok (.aload_n 0, 1) := by decide +kernel
theorem dX3_digest_69 : decode cX3_digest 69 = .ok (.getfield 31, 3) := by decide +kernel
theorem dX3_digest_72 : decode cX3_digest 72 = .ok (.iconst 1, 1) := by decide +kernel
theorem dX3_digest_73 : decode cX3_digest 73 = .ok (.iaload, 1) := by decide +kernel
theorem dX3_digest_74 : decode cX3_digest 74 = .ok (.i2l, 1) := by decide +kernel
theorem dX3_digest_75 : decode cX3_digest 75 = .ok (.ladd, 1) := by decide +kernel
theorem dX3_digest_76 : decode cX3_digest 76 = .ok (.ldc2_w 204, 3) := by decide +kernel
theorem dX3_digest_79 : decode cX3_digest 79 = .ok (.lmul, 1) := by decide +kernel
theorem dX3_digest_80 : decode cX3_digest 80 = .ok (.aload_n 0, 1) := by decide +kernel
theorem dX3_digest_81 : decode cX3_digest 81 = .ok (.invokevirtual 184, 3) := by decide +kernel
theorem dX3_digest_84 : decode cX3_digest 84 = .ok (.i2l, 1) := by decide +kernel
theorem dX3_digest_85 : decode cX3_digest 85 = .ok (.ladd, 1) := by decide +kernel
theorem dX3_digest_86 : decode cX3_digest 86 = .ok (.lstore_n 1, 1) := by decide +kernel
theorem dX3_digest_87 : decode cX3_digest 87 = .ok (.iconst 0, 1) := by decide +kernel
theorem dX3_digest_88 : decode cX3_digest 88 = .ok (.istore_n 3, 1) := by decide +kernel
theorem dX3_digest_89 : decode cX3_digest 89 = .ok (.iload_n 3, 1) := by decide +kernel
theorem dX3_digest_90 : decode cX3_digest 90 = .ok (.aload_n 0, 1) := by decide +kernel
theorem dX3_digest_91 : decode cX3_digest 91 = .ok (.getfield 48, 3) := by decide +kernel
theorem dX3_digest_94 : decode cX3_digest 94 = .ok (.if_icmp .ge 95, 3) := by decide +kernel
theorem dX3_digest_97 : decode cX3_digest 97 = .ok (.lload_n 1, 1) := by decide +kernel
theorem dX3_digest_98 : decode cX3_digest 98 = .ok (.ldc2_w 204, 3) := by decide +kernel
theorem dX3_digest_101 : decode cX3_digest 101 = .ok (.lmul, 1) := by decide +kernel
theorem dX3_digest_102 : decode cX3_digest 102 = .ok (.aload_n 0, 1) := by decide +kernel
theorem dX3_digest_103 : decode cX3_digest 103 = .ok (.getfield 31, 3) := by decide +kernel
theorem dX3_digest_106 : decode cX3_digest 106 = .ok (.iconst 2, 1) := by decide +kernel
theorem dX3_digest_107 : decode cX3_digest 107 = .ok (.iload_n 3, 1) := by decide +kernel
theorem dX3_digest_108 : decode cX3_digest 108 = .ok (.iadd, 1) := by decide +kernel
theorem dX3_digest_109 : decode cX3_digest 109 = .ok (.iaload, 1) := by decide +kernel
theorem dX3_digest_110 : decode cX3_digest 110 = .ok (.i2l, 1) := by decide +kernel
theorem dX3_digest_111 : decode cX3_digest 111 = .ok (.ladd, 1) := by decide +kernel
theorem dX3_digest_112 : decode cX3_digest 112 = .ok (.ldc2_w 204, 3) := by decide +kernel
theorem dX3_digest_115 : decode cX3_digest 115 = .ok (.lmul, 1) := by decide +kernel
theorem dX3_digest_116 : decode cX3_digest 116 = .ok (.aload_n 0, 1) := by decide +kernel
theorem dX3_digest_117 : decode cX3_digest 117 = .ok (.iload_n 3, 1) := by decide +kernel
theorem dX3_digest_118 : decode cX3_digest 118 = .ok (.invokevirtual 178, 3) := by decide +kernel
theorem dX3_digest_121 : decode cX3_digest 121 = .ok (.i2l, 1) := by decide +kernel
theorem dX3_digest_122 : decode cX3_digest 122 = .ok (.ladd, 1) := by decide +kernel
theorem dX3_digest_123 : decode cX3_digest 123 = .ok (.lstore_n 1, 1) := by decide +kernel
theorem dX3_digest_124 : decode cX3_digest 124 = .ok (.iconst 0, 1) := by decide +kernel
theorem dX3_digest_125 : decode cX3_digest 125 = .ok (.istore 4, 2) := by decide +kernel
theorem dX3_digest_127 : decode cX3_digest 127 = .ok (.iload 4, 2) := by decide +kernel
theorem dX3_digest_129 : decode cX3_digest 129 = .ok (.aload_n 0, 1) := by decide +kernel
theorem dX3_digest_130 : decode cX3_digest 130 = .ok (.getfield 48, 3) := by decide +kernel
theorem dX3_digest_133 : decode cX3_digest 133 = .ok (.if_icmp .ge 24, 3) := by decide +kernel
theorem dX3_digest_136 : decode cX3_digest 136 = .ok (.lload_n 1, 1) := by decide +kernel
theorem dX3_digest_137 : decode cX3_digest 137 = .ok (.ldc2_w 204, 3) := by decide +kernel
theorem dX3_digest_140 : decode cX3_digest 140 = .ok (.lmul, 1) := by decide +kernel
theorem dX3_digest_141 : decode cX3_digest 141 = .ok (.aload_n 0, 1) := by decide +kernel
theorem dX3_digest_142 : decode cX3_digest 142 = .ok (.iload_n 3, 1) := by decide +kernel
theorem dX3_digest_143 : decode cX3_digest 143 = .ok (.iload 4, 2) := by decide +kernel
theorem dX3_digest_145 : decode cX3_digest 145 = .ok (.invokevirtual 181, 3) := by decide +kernel
theorem dX3_digest_148 : decode cX3_digest 148 = .ok (.i2l, 1) := by decide +kernel
theorem dX3_digest_149 : decode cX3_digest 149 = .ok (.ladd, 1) := by decide +kernel
theorem dX3_digest_150 : decode cX3_digest 150 = .ok (.lstore_n 1, 1) := by decide +kernel
theorem dX3_digest_151 : decode cX3_digest 151 = .ok (.iinc 4 1, 3) := by decide +kernel
theorem dX3_digest_154 : decode cX3_digest 154 = .ok (.goto (-27), 3) := by decide +kernel
theorem dX3_digest_157 : decode cX3_digest 157 = .ok (.lload_n 1, 1) := by decide +kernel
theorem dX3_digest_158 : decode cX3_digest 158 = .ok (.ldc2_w 204, 3) := by decide +kernel
theorem dX3_digest_161 : decode cX3_digest 161 = .ok (.lmul, 1) := by decide +kernel
theorem dX3_digest_162 : decode cX3_digest 162 = .ok (.aload_n 0, 1) := by decide +kernel
theorem dX3_digest_163 : decode cX3_digest 163 = .ok (.iload_n 3, 1) := by decide +kernel
theorem dX3_digest_164 : decode cX3_digest 164 = .ok (.bipush 30, 2) := by decide +kernel
theorem dX3_digest_166 : decode cX3_digest 166 = .ok (.invokevirtual 196, 3) := by decide +kernel
theorem dX3_digest_169 : decode cX3_digest 169 = .ok (.i2l, 1) := by decide +kernel
theorem dX3_digest_170 : decode cX3_digest 170 = .ok (.ladd, 1) := by decide +kernel
theorem dX3_digest_171 : decode cX3_digest 171 = .ok (.ldc2_w 204, 3) := by decide +kernel
theorem dX3_digest_174 : decode cX3_digest 174 = .ok (.lmul, 1) := by decide +kernel
theorem dX3_digest_175 : decode cX3_digest 175 = .ok (.aload_n 0, 1) := by decide +kernel
theorem dX3_digest_176 : decode cX3_digest 176 = .ok (.iload_n 3, 1) := by decide +kernel
theorem dX3_digest_177 : decode cX3_digest 177 = .ok (.invokevirtual 199, 3) := by decide +kernel
theorem dX3_digest_180 : decode cX3_digest 180 = .ok (.i2l, 1) := by decide +kernel
theorem dX3_digest_181 : decode cX3_digest 181 = .ok (.ladd, 1) := by decide +kernel
theorem dX3_digest_182 : decode cX3_digest 182 = .ok (.lstore_n 1, 1) := by decide +kernel
theorem dX3_digest_183 : decode cX3_digest 183 = .ok (.iinc 3 1, 3) := by decide +kernel
theorem dX3_digest_186 : decode cX3_digest 186 = .ok (.goto (-97), 3) := by decide +kernel
theorem dX3_digest_189 : decode cX3_digest 189 = .ok (.iconst 0, 1) := by decide +kernel
theorem dX3_digest_190 : decode cX3_digest 190 = .ok (.istore_n 3, 1) := by decide +kernel
theorem dX3_digest_191 : decode cX3_digest 191 = .ok (.iload_n 3, 1) := by decide +kernel
theorem dX3_digest_192 : decode cX3_digest 192 = .ok (.aload_n 0, 1) := by decide +kernel
theorem dX3_digest_193 : decode cX3_digest 193 = .ok (.getfield 55, 3) := by decide +kernel
theorem dX3_digest_196 : decode cX3_digest 196 = .ok (.if_icmp .ge 131, 3) := by decide +kernel
theorem dX3_digest_199 : decode cX3_digest 199 = .ok (.bipush 8, 2) := by decide +kernel
theorem dX3_digest_201 : decode cX3_digest 201 = .ok (.newarray .int, 2) := by decide +kernel
theorem dX3_digest_203 : decode cX3_digest 203 = .ok (.dup, 1) := by decide +kernel
theorem dX3_digest_204 : decode cX3_digest 204 = .ok (.iconst 0, 1) := by decide +kernel
theorem dX3_digest_205 : decode cX3_digest 205 = .ok (.aload_n 0, 1) := by decide +kernel
theorem dX3_digest_206 : decode cX3_digest 206 = .ok (.iload_n 3, 1) := by decide +kernel
theorem dX3_digest_207 : decode cX3_digest 207 = .ok (.invokevirtual 64, 3) := by decide +kernel
theorem dX3_digest_210 : decode cX3_digest 210 = .ok (.iastore, 1) := by decide +kernel
theorem dX3_digest_211 : decode cX3_digest 211 = .ok (.dup, 1) := by decide +kernel
theorem dX3_digest_212 : decode cX3_digest 212 = .ok (.iconst 1, 1) := by decide +kernel
theorem dX3_digest_213 : decode cX3_digest 213 = .ok (.aload_n 0, 1) := by decide +kernel
theorem dX3_digest_214 : decode cX3_digest 214 = .ok (.getfield 31, 3) := by decide +kernel
theorem dX3_digest_217 : decode cX3_digest 217 = .ok (.bipush 28, 2) := by decide +kernel
theorem dX3_digest_219 : decode cX3_digest 219 = .ok (.iload_n 3, 1) := by decide +kernel
theorem dX3_digest_220 : decode cX3_digest 220 = .ok (.iadd, 1) := by decide +kernel
theorem dX3_digest_221 : decode cX3_digest 221 = .ok (.iaload, 1) := by decide +kernel
theorem dX3_digest_222 : decode cX3_digest 222 = .ok (.iastore, 1) := by decide +kernel
theorem dX3_digest_223 : decode cX3_digest 223 = .ok (.dup, 1) := by decide +kernel
theorem dX3_digest_224 : decode cX3_digest 224 = .ok (.iconst 2, 1) := by decide +kernel
theorem dX3_digest_225 : decode cX3_digest 225 = .ok (.aload_n 0, 1) := by decide +kernel
theorem dX3_digest_226 : decode cX3_digest 226 = .ok (.getfield 31, 3) := by decide +kernel
theorem dX3_digest_229 : decode cX3_digest 229 = .ok (.bipush 48, 2) := by decide +kernel
theorem dX3_digest_231 : decode cX3_digest 231 = .ok (.iload_n 3, 1) := by decide +kernel
theorem dX3_digest_232 : decode cX3_digest 232 = .ok (.iadd, 1) := by decide +kernel
theorem dX3_digest_233 : decode cX3_digest 233 = .ok (.iaload, 1) := by decide +kernel
theorem dX3_digest_234 : decode cX3_digest 234 = .ok (.iastore, 1) := by decide +kernel
theorem dX3_digest_235 : decode cX3_digest 235 = .ok (.dup, 1) := by decide +kernel
theorem dX3_digest_236 : decode cX3_digest 236 = .ok (.iconst 3, 1) := by decide +kernel
theorem dX3_digest_237 : decode cX3_digest 237 = .ok (.aload_n 0, 1) := by decide +kernel
theorem dX3_digest_238 : decode cX3_digest 238 = .ok (.iload_n 3, 1) := by decide +kernel
theorem dX3_digest_239 : decode cX3_digest 239 = .ok (.invokevirtual 72, 3) := by decide +kernel
theorem dX3_digest_242 : decode cX3_digest 242 = .ok (.iastore, 1) := by decide +kernel
theorem dX3_digest_243 : decode cX3_digest 243 = .ok (.dup, 1) := by decide +kernel
theorem dX3_digest_244 : decode cX3_digest 244 = .ok (.iconst 4, 1) := by decide +kernel
theorem dX3_digest_245 : decode cX3_digest 245 = .ok (.aload_n 0, 1) := by decide +kernel
theorem dX3_digest_246 : decode cX3_digest 246 = .ok (.iload_n 3, 1) := by decide +kernel
theorem dX3_digest_247 : decode cX3_digest 247 = .ok (.invokevirtual 136, 3) := by decide +kernel
theorem dX3_digest_250 : decode cX3_digest 250 = .ok (.iastore, 1) := by decide +kernel
theorem dX3_digest_251 : decode cX3_digest 251 = .ok (.dup, 1) := by decide +kernel
theorem dX3_digest_252 : decode cX3_digest 252 = .ok (.iconst 5, 1) := by decide +kernel
theorem dX3_digest_253 : decode cX3_digest 253 = .ok (.aload_n 0, 1) := by decide +kernel
theorem dX3_digest_254 : decode cX3_digest 254 = .ok (.iload_n 3, 1) := by decide +kernel
theorem dX3_digest_255 : decode cX3_digest 255 = .ok (.invokevirtual 139, 3) := by decide +kernel
theorem dX3_digest_258 : decode cX3_digest 258 = .ok (.iastore, 1) := by decide +kernel
theorem dX3_digest_259 : decode cX3_digest 259 = .ok (.dup, 1) := by decide +kernel
theorem dX3_digest_260 : decode cX3_digest 260 = .ok (.bipush 6, 2) := by decide +kernel
theorem dX3_digest_262 : decode cX3_digest 262 = .ok (.aload_n 0, 1) := by decide +kernel
theorem dX3_digest_263 : decode cX3_digest 263 = .ok (.iload_n 3, 1) := by decide +kernel
theorem dX3_digest_264 : decode cX3_digest 264 = .ok (.invokevirtual 175, 3) := by decide +kernel
theorem dX3_digest_267 : decode cX3_digest 267 = .ok (.iastore, 1) := by decide +kernel
theorem dX3_digest_268 : decode cX3_digest 268 = .ok (.dup, 1) := by decide +kernel
theorem dX3_digest_269 : decode cX3_digest 269 = .ok (.bipush 7, 2) := by decide +kernel
theorem dX3_digest_271 : decode cX3_digest 271 = .ok (.aload_n 0, 1) := by decide +kernel
theorem dX3_digest_272 : decode cX3_digest 272 = .ok (.iload_n 3, 1) := by decide +kernel
theorem dX3_digest_273 : decode cX3_digest 273 = .ok (.invokevirtual 193, 3) := by decide +kernel
theorem dX3_digest_276 : decode cX3_digest 276 = .ok (.iastore, 1) := by decide +kernel
theorem dX3_digest_277 : decode cX3_digest 277 = .ok (.astore 4, 2) := by decide +kernel
theorem dX3_digest_279 : decode cX3_digest 279 = .ok (.aload 4, 2) := by decide +kernel
theorem dX3_digest_281 : decode cX3_digest 281 = .ok (.astore 5, 2) := by decide +kernel
theorem dX3_digest_283 : decode cX3_digest 283 = .ok (.aload 5, 2) := by decide +kernel
theorem dX3_digest_285 : decode cX3_digest 285 = .ok (.arraylength, 1) := by decide +kernel
theorem dX3_digest_286 : decode cX3_digest 286 = .ok (.istore 6, 2) := by decide +kernel
theorem dX3_digest_288 : decode cX3_digest 288 = .ok (.iconst 0, 1) := by decide +kernel
theorem dX3_digest_289 : decode cX3_digest 289 = .ok (.istore 7, 2) := by decide +kernel
theorem dX3_digest_291 : decode cX3_digest 291 = .ok (.iload 7, 2) := by decide +kernel
theorem dX3_digest_293 : decode cX3_digest 293 = .ok (.iload 6, 2) := by decide +kernel
theorem dX3_digest_295 : decode cX3_digest 295 = .ok (.if_icmp .ge 26, 3) := by decide +kernel
theorem dX3_digest_298 : decode cX3_digest 298 = .ok (.aload 5, 2) := by decide +kernel
theorem dX3_digest_300 : decode cX3_digest 300 = .ok (.iload 7, 2) := by decide +kernel
theorem dX3_digest_302 : decode cX3_digest 302 = .ok (.iaload, 1) := by decide +kernel
theorem dX3_digest_303 : decode cX3_digest 303 = .ok (.istore 8, 2) := by decide +kernel
theorem dX3_digest_305 : decode cX3_digest 305 = .ok (.lload_n 1, 1) := by decide +kernel
theorem dX3_digest_306 : decode cX3_digest 306 = .ok (.ldc2_w 204, 3) := by decide +kernel
theorem dX3_digest_309 : decode cX3_digest 309 = .ok (.lmul, 1) := by decide +kernel
theorem dX3_digest_310 : decode cX3_digest 310 = .ok (.iload 8, 2) := by decide +kernel
theorem dX3_digest_312 : decode cX3_digest 312 = .ok (.i2l, 1) := by decide +kernel
theorem dX3_digest_313 : decode cX3_digest 313 = .ok (.ladd, 1) := by decide +kernel
theorem dX3_digest_314 : decode cX3_digest 314 = .ok (.lstore_n 1, 1) := by decide +kernel
theorem dX3_digest_315 : decode cX3_digest 315 = .ok (.iinc 7 1, 3) := by decide +kernel
theorem dX3_digest_318 : decode cX3_digest 318 = .ok (.goto (-27), 3) := by decide +kernel
theorem dX3_digest_321 : decode cX3_digest 321 = .ok (.iinc 3 1, 3) := by decide +kernel
theorem dX3_digest_324 : decode cX3_digest 324 = .ok (.goto (-133), 3) := by decide +kernel
theorem dX3_digest_327 : decode cX3_digest 327 = .ok (.lload_n 1, 1) := by decide +kernel
theorem dX3_digest_328 : decode cX3_digest 328 = .ok (.lreturn, 1) := by decide +kernel
theorem dJ5_init_d00df_0 : decode cJ5_init_d00df 0 = .ok (.aload_n 0, 1) := by decide +kernel
theorem dJ5_init_d00df_1 : decode cJ5_init_d00df 1 = .ok (.invokespecial 3, 3) := by decide +kernel
theorem dJ5_init_d00df_4 : decode cJ5_init_d00df 4 = .ok (.getstatic 18, 3) := by decide +kernel
theorem dJ5_init_d00df_7 : decode cJ5_init_d00df 7 = .ok (.ifCond .eq 18, 3) := by decide +kernel
theorem dJ5_init_d00df_10 : decode cJ5_init_d00df 10 = .ok (.aload_n 0, 1) := by decide +kernel
theorem dJ5_init_d00df_11 : decode cJ5_init_d00df 11 = .ok (.iload_n 1, 1) := by decide +kernel
theorem dJ5_init_d00df_12 : decode cJ5_init_d00df 12 = .ok (.newarray .byte, 2) := by decide +kernel
theorem dJ5_init_d00df_14 : decode cJ5_init_d00df 14 = .ok (.putfield 15, 3) := by decide +kernel
theorem dJ5_init_d00df_17 : decode cJ5_init_d00df 17 = .ok (.aload_n 0, 1) := by decide +kernel
theorem dJ5_init_d00df_18 : decode cJ5_init_d00df 18 = .ok (.iconst 0, 1) := by decide +kernel
theorem dJ5_init_d00df_19 : decode cJ5_init_d00df 19 = .ok (.putfield 22, 3) := by decide +kernel
theorem dJ5_init_d00df_22 : decode cJ5_init_d00df 22 = .ok (.goto 16, 3) := by decide +kernel
theorem dJ5_init_d00df_25 : decode cJ5_init_d00df 25 = .ok (.aload_n 0, 1) := by decide +kernel
theorem dJ5_init_d00df_26 : decode cJ5_init_d00df 26 = .ok (.iload_n 1, 1) := by decide +kernel
theorem dJ5_init_d00df_27 : decode cJ5_init_d00df 27 = .ok (.invokestatic 26, 3) := by decide +kernel
theorem dJ5_init_d00df_30 : decode cJ5_init_d00df 30 = .ok (.putfield 15, 3) := by decide +kernel
theorem dJ5_init_d00df_33 : decode cJ5_init_d00df 33 = .ok (.aload_n 0, 1) := by decide +kernel
theorem dJ5_init_d00df_34 : decode cJ5_init_d00df 34 = .ok (.iconst 1, 1) := by decide +kernel
theorem dJ5_init_d00df_35 : decode cJ5_init_d00df 35 = .ok (.putfield 22, 3) := by decide +kernel
theorem dJ5_init_d00df_38 : decode cJ5_init_d00df 38 = .ok (.return_, 1) := by decide +kernel
theorem dJ5_length_8abf5_0 : decode cJ5_length_8abf5 0 = .ok (.aload_n 0, 1) := by decide +kernel
theorem dJ5_length_8abf5_1 : decode cJ5_length_8abf5 1 = .ok (.getfield 79, 3) := by decide +kernel
theorem dJ5_length_8abf5_4 : decode cJ5_length_8abf5 4 = .ok (.ireturn, 1) := by decide +kernel
theorem dJ5_ensureCapacityInternal_d00df_0 : decode cJ5_ensureCapacityInternal_d00df 0 = .ok (.aload_n 0, 1) := by decide +kernel
theorem dJ5_ensureCapacityInternal_d00df_1 : decode cJ5_ensureCapacityInternal_d00df 1 = .ok (.getfield 15, 3) := by decide +kernel
theorem dJ5_ensureCapacityInternal_d00df_4 : decode cJ5_ensureCapacityInternal_d00df 4 = .ok (.arraylength, 1) := by decide +kernel
theorem dJ5_ensureCapacityInternal_d00df_5 : decode cJ5_ensureCapacityInternal_d00df 5 = .ok (.aload_n 0, 1) := by decide +kernel
theorem dJ5_ensureCapacityInternal_d00df_6 : decode cJ5_ensureCapacityInternal_d00df 6 = .ok (.getfield 22, 3) := by decide +kernel
theorem dJ5_ensureCapacityInternal_d00df_9 : decode cJ5_ensureCapacityInternal_d00df 9 = .ok (.ishr, 1) := by decide +kernel
theorem dJ5_ensureCapacityInternal_d00df_10 : decode cJ5_ensureCapacityInternal_d00df 10 = .ok (.istore_n 2, 1) := by decide +kernel
theorem dJ5_ensureCapacityInternal_d00df_11 : decode cJ5_ensureCapacityInternal_d00df 11 = .ok (.iload_n 1, 1) := by decide +kernel
theorem dJ5_ensureCapacityInternal_d00df_12 : decode cJ5_ensureCapacityInternal_d00df 12 = .ok (.iload_n 2, 1) := by decide +kernel
theorem dJ5_ensureCapacityInternal_d00df_13 : decode cJ5_ensureCapacityInternal_d00df 13 = .ok (.isub, 1) := by decide +kernel
theorem dJ5_ensureCapacityInternal_d00df_14 : decode cJ5_ensureCapacityInternal_d00df 14 = .ok (.ifCond .le 24, 3) := by decide +kernel
theorem dJ5_ensureCapacityInternal_d00df_17 : decode cJ5_ensureCapacityInternal_d00df 17 = .ok (.aload_n 0, 1) := by decide +kernel
theorem dJ5_ensureCapacityInternal_d00df_18 : decode cJ5_ensureCapacityInternal_d00df 18 = .ok (.aload_n 0, 1) := by decide +kernel
theorem dJ5_ensureCapacityInternal_d00df_19 : decode cJ5_ensureCapacityInternal_d00df 19 = .ok (.getfield 15, 3) := by decide +kernel
theorem dJ5_ensureCapacityInternal_d00df_22 : decode cJ5_ensureCapacityInternal_d00df 22 = .ok (.aload_n 0, 1) := by decide +kernel
theorem dJ5_ensureCapacityInternal_d00df_23 : decode cJ5_ensureCapacityInternal_d00df 23 = .ok (.iload_n 1, 1) := by decide +kernel
theorem dJ5_ensureCapacityInternal_d00df_24 : decode cJ5_ensureCapacityInternal_d00df 24 = .ok (.invokevirtual 104, 3) := by decide +kernel
theorem dJ5_ensureCapacityInternal_d00df_27 : decode cJ5_ensureCapacityInternal_d00df 27 = .ok (.aload_n 0, 1) := by decide +kernel
theorem dJ5_ensureCapacityInternal_d00df_28 : decode cJ5_ensureCapacityInternal_d00df 28 = .ok (.getfield 22, 3) := by decide +kernel
theorem dJ5_ensureCapacityInternal_d00df_31 : decode cJ5_ensureCapacityInternal_d00df 31 = .ok (.ishl, 1) := by decide +kernel
theorem dJ5_ensureCapacityInternal_d00df_32 : decode cJ5_ensureCapacityInternal_d00df 32 = .ok (.invokestatic 108, 3) := by decide +kernel
theorem dJ5_ensureCapacityInternal_d00df_35 : decode cJ5_ensureCapacityInternal_d00df 35 = .ok (.putfield 15, 3) := by decide +kernel
theorem dJ5_ensureCapacityInternal_d00df_38 : decode cJ5_ensureCapacityInternal_d00df 38 = .ok (.return_, 1) := by decide +kernel
theorem dJ5_newCapacity_0f7a4_0 : decode cJ5_newCapacity_0f7a4 0 = .ok (.aload_n 0, 1) := by decide +kernel
theorem dJ5_newCapacity_0f7a4_1 : decode cJ5_newCapacity_0f7a4 1 = .ok (.getfield 15, 3) := by decide +kernel
theorem dJ5_newCapacity_0f7a4_4 : decode cJ5_newCapacity_0f7a4 4 = .ok (.arraylength, 1) := by decide +kernel
theorem dJ5_newCapacity_0f7a4_5 : decode cJ5_newCapacity_0f7a4 5 = .ok (.istore_n 2, 1) := by decide +kernel
theorem dJ5_newCapacity_0f7a4_6 : decode cJ5_newCapacity_0f7a4 6 = .ok (.iload_n 1, 1) := by decide +kernel
theorem dJ5_newCapacity_0f7a4_7 : decode cJ5_newCapacity_0f7a4 7 = .ok (.aload_n 0, 1) := by decide +kernel
theorem dJ5_newCapacity_0f7a4_8 : decode cJ5_newCapacity_0f7a4 8 = .ok (.getfield 22, 3) := by decide +kernel
theorem dJ5_newCapacity_0f7a4_11 : decode cJ5_newCapacity_0f7a4 11 = .ok (.ishl, 1) := by decide +kernel
theorem dJ5_newCapacity_0f7a4_12 : decode cJ5_newCapacity_0f7a4 12 = .ok (.istore_n 3, 1) := by decide +kernel
theorem dJ5_newCapacity_0f7a4_13 : decode cJ5_newCapacity_0f7a4 13 = .ok (.iload_n 3, 1) := by decide +kernel
theorem dJ5_newCapacity_0f7a4_14 : decode cJ5_newCapacity_0f7a4 14 = .ok (.iload_n 2, 1) := by decide +kernel
theorem dJ5_newCapacity_0f7a4_15 : decode cJ5_newCapacity_0f7a4 15 = .ok (.isub, 1) := by decide +kernel
theorem dJ5_newCapacity_0f7a4_16 : decode cJ5_newCapacity_0f7a4 16 = .ok (.istore 4, 2) := by decide +kernel
theorem dJ5_newCapacity_0f7a4_18 : decode cJ5_newCapacity_0f7a4 18 = .ok (.iload_n 2, 1) := by decide +kernel
theorem dJ5_newCapacity_0f7a4_19 : decode cJ5_newCapacity_0f7a4 19 = .ok (.iload 4, 2) := by decide +kernel
theorem dJ5_newCapacity_0f7a4_21 : decode cJ5_newCapacity_0f7a4 21 = .ok (.iload_n 2, 1) := by decide +kernel
theorem dJ5_newCapacity_0f7a4_22 : decode cJ5_newCapacity_0f7a4 22 = .ok (.iconst 2, 1) := by decide +kernel
theorem dJ5_newCapacity_0f7a4_23 : decode cJ5_newCapacity_0f7a4 23 = .ok (.aload_n 0, 1) := by decide +kernel
theorem dJ5_newCapacity_0f7a4_24 : decode cJ5_newCapacity_0f7a4 24 = .ok (.getfield 22, 3) := by decide +kernel
theorem dJ5_newCapacity_0f7a4_27 : decode cJ5_newCapacity_0f7a4 27 = .ok (.ishl, 1) := by decide +kernel
theorem dJ5_newCapacity_0f7a4_28 : decode cJ5_newCapacity_0f7a4 28 = .ok (.iadd, 1) := by decide +kernel
theorem dJ5_newCapacity_0f7a4_29 : decode cJ5_newCapacity_0f7a4 29 = .ok (.invokestatic 114, 3) := by decide +kernel
theorem dJ5_newCapacity_0f7a4_32 : decode cJ5_newCapacity_0f7a4 32 = .ok (.istore 5, 2) := by decide +kernel
theorem dJ5_newCapacity_0f7a4_34 : decode cJ5_newCapacity_0f7a4 34 = .ok (.iload 5, 2) := by decide +kernel
theorem dJ5_newCapacity_0f7a4_36 : decode cJ5_newCapacity_0f7a4 36 = .ok (.ldc 39, 2) := by decide +kernel
theorem dJ5_newCapacity_0f7a4_38 : decode cJ5_newCapacity_0f7a4 38 = .ok (.if_icmp .ne 13, 3) := by decide +kernel
theorem dJ5_newCapacity_0f7a4_41 : decode cJ5_newCapacity_0f7a4 41 = .ok (.new 120, 3) := by decide +kernel
theorem dJ5_newCapacity_0f7a4_44 : decode cJ5_newCapacity_0f7a4 44 = .ok (.dup, 1) := by decide +kernel
theorem dJ5_newCapacity_0f7a4_45 : decode cJ5_newCapacity_0f7a4 45 = .ok (.ldc 122, 2) := by decide +kernel
theorem dJ5_newCapacity_0f7a4_47 : decode cJ5_newCapacity_0f7a4 47 = .ok (.invokespecial 124, 3) := by decide +kernel
theorem dJ5_newCapacity_0f7a4_50 : decode cJ5_newCapacity_0f7a4 50 = .ok (.athrow, 1) := by decide +kernel
theorem dJ5_newCapacity_0f7a4_51 : decode cJ5_newCapacity_0f7a4 51 = .ok (.iload 5, 2) := by decide +kernel
theorem dJ5_newCapacity_0f7a4_53 : decode cJ5_newCapacity_0f7a4 53 = .ok (.aload_n 0, 1) := by decide +kernel
theorem dJ5_newCapacity_0f7a4_54 : decode cJ5_newCapacity_0f7a4 54 = .ok (.getfield 22, 3) := by decide +kernel
theorem dJ5_newCapacity_0f7a4_57 : decode cJ5_newCapacity_0f7a4 57 = .ok (.ishr, 1) := by decide +kernel
theorem dJ5_newCapacity_0f7a4_58 : decode cJ5_newCapacity_0f7a4 58 = .ok (.ireturn, 1) := by decide +kernel
theorem dJ5_inflate_da8c8_0 : decode cJ5_inflate_da8c8 0 = .ok (.aload_n 0, 1) := by decide +kernel
theorem dJ5_inflate_da8c8_1 : decode cJ5_inflate_da8c8 1 = .ok (.invokevirtual 83, 3) := by decide +kernel
theorem dJ5_inflate_da8c8_4 : decode cJ5_inflate_da8c8 4 = .ok (.ifCond .ne 4, 3) := by decide +kernel
theorem dJ5_inflate_da8c8_7 : decode cJ5_inflate_da8c8 7 = .ok (.return_, 1) := by decide +kernel
theorem dJ5_inflate_da8c8_8 : decode cJ5_inflate_da8c8 8 = .ok (.aload_n 0, 1) := by decide +kernel
theorem dJ5_inflate_da8c8_9 : decode cJ5_inflate_da8c8 9 = .ok (.getfield 15, 3) := by decide +kernel
theorem dJ5_inflate_da8c8_12 : decode cJ5_inflate_da8c8 12 = .ok (.arraylength, 1) := by decide +kernel
theorem dJ5_inflate_da8c8_13 : decode cJ5_inflate_da8c8 13 = .ok (.invokestatic 26, 3) := by decide +kernel
theorem dJ5_inflate_da8c8_16 : decode cJ5_inflate_da8c8 16 = .ok (.astore_n 1, 1) := by decide +kernel
theorem dJ5_inflate_da8c8_17 : decode cJ5_inflate_da8c8 17 = .ok (.aload_n 0, 1) := by decide +kernel
theorem dJ5_inflate_da8c8_18 : decode cJ5_inflate_da8c8 18 = .ok (.getfield 15, 3) := by decide +kernel
theorem dJ5_inflate_da8c8_21 : decode cJ5_inflate_da8c8 21 = .ok (.iconst 0, 1) := by decide +kernel
theorem dJ5_inflate_da8c8_22 : decode cJ5_inflate_da8c8 22 = .ok (.aload_n 1, 1) := by decide +kernel
theorem dJ5_inflate_da8c8_23 : decode cJ5_inflate_da8c8 23 = .ok (.iconst 0, 1) := by decide +kernel
theorem dJ5_inflate_da8c8_24 : decode cJ5_inflate_da8c8 24 = .ok (.aload_n 0, 1) := by decide +kernel
theorem dJ5_inflate_da8c8_25 : decode cJ5_inflate_da8c8 25 = .ok (.getfield 79, 3) := by decide +kernel
theorem dJ5_inflate_da8c8_28 : decode cJ5_inflate_da8c8 28 = .ok (.invokestatic 125, 3) := by decide +kernel
theorem dJ5_inflate_da8c8_31 : decode cJ5_inflate_da8c8 31 = .ok (.aload_n 0, 1) := by decide +kernel
theorem dJ5_inflate_da8c8_32 : decode cJ5_inflate_da8c8 32 = .ok (.aload_n 1, 1) := by decide +kernel
theorem dJ5_inflate_da8c8_33 : decode cJ5_inflate_da8c8 33 = .ok (.putfield 15, 3) := by decide +kernel
theorem dJ5_inflate_da8c8_36 : decode cJ5_inflate_da8c8 36 = .ok (.aload_n 0, 1) := by decide +kernel
theorem dJ5_inflate_da8c8_37 : decode cJ5_inflate_da8c8 37 = .ok (.iconst 1, 1) := by decide +kernel
theorem dJ5_inflate_da8c8_38 : decode cJ5_inflate_da8c8 38 = .ok (.putfield 22, 3) := by decide +kernel
theorem dJ5_inflate_da8c8_41 : decode cJ5_inflate_da8c8 41 = .ok (.return_, 1) := by decide +kernel
theorem dJ5_setLength_d00df_0 : decode cJ5_setLength_d00df 0 = .ok (.iload_n 1, 1) := by decide +kernel
theorem dJ5_setLength_d00df_1 : decode cJ5_setLength_d00df 1 = .ok (.ifCond .ge 12, 3) := by decide +kernel
theorem dJ5_setLength_d00df_4 : decode cJ5_setLength_d00df 4 = .ok (.new 129, 3) := by decide +kernel
theorem dJ5_setLength_d00df_7 : decode cJ5_setLength_d00df 7 = .ok (.dup, 1) := by decide +kernel
theorem dJ5_setLength_d00df_8 : decode cJ5_setLength_d00df 8 = .ok (.iload_n 1, 1) := by decide +kernel
theorem dJ5_setLength_d00df_9 : decode cJ5_setLength_d00df 9 = .ok (.invokespecial 131, 3) := by decide +kernel
theorem dJ5_setLength_d00df_12 : decode cJ5_setLength_d00df 12 = .ok (.athrow, 1) := by decide +kernel
theorem dJ5_setLength_d00df_13 : decode cJ5_setLength_d00df 13 = .ok (.aload_n 0, 1) := by decide +kernel
theorem dJ5_setLength_d00df_14 : decode cJ5_setLength_d00df 14 = .ok (.iload_n 1, 1) := by decide +kernel
theorem dJ5_setLength_d00df_15 : decode cJ5_setLength_d00df 15 = .ok (.invokevirtual 100, 3) := by decide +kernel
theorem dJ5_setLength_d00df_18 : decode cJ5_setLength_d00df 18 = .ok (.aload_n 0, 1) := by decide +kernel
theorem dJ5_setLength_d00df_19 : decode cJ5_setLength_d00df 19 = .ok (.getfield 79, 3) := by decide +kernel
theorem dJ5_setLength_d00df_22 : decode cJ5_setLength_d00df 22 = .ok (.iload_n 1, 1) := by decide +kernel
theorem dJ5_setLength_d00df_23 : decode cJ5_setLength_d00df 23 = .ok (.if_icmp .ge 40, 3) := by decide +kernel
theorem dJ5_setLength_d00df_26 : decode cJ5_setLength_d00df 26 = .ok (.aload_n 0, 1) := by decide +kernel
theorem dJ5_setLength_d00df_27 : decode cJ5_setLength_d00df 27 = .ok (.invokevirtual 83, 3) := by decide +kernel
theorem dJ5_setLength_d00df_30 : decode cJ5_setLength_d00df 30 = .ok (.ifCond .eq 18, 3) := by decide +kernel
theorem dJ5_setLength_d00df_33 : decode cJ5_setLength_d00df 33 = .ok (.aload_n 0, 1) := by decide +kernel
theorem dJ5_setLength_d00df_34 : decode cJ5_setLength_d00df 34 = .ok (.getfield 15, 3) := by decide +kernel
theorem dJ5_setLength_d00df_37 : decode cJ5_setLength_d00df 37 = .ok (.aload_n 0, 1) := by decide +kernel
theorem dJ5_setLength_d00df_38 : decode cJ5_setLength_d00df 38 = .ok (.getfield 79, 3) := by decide +kernel
theorem dJ5_setLength_d00df_41 : decode cJ5_setLength_d00df 41 = .ok (.iload_n 1, 1) := by decide +kernel
theorem dJ5_setLength_d00df_42 : decode cJ5_setLength_d00df 42 = .ok (.invokestatic 133, 3) := by decide +kernel
theorem dJ5_setLength_d00df_45 : decode cJ5_setLength_d00df 45 = .ok (.goto 31, 3) := by decide +kernel
theorem dJ5_setLength_d00df_48 : decode cJ5_setLength_d00df 48 = .ok (.aload_n 0, 1) := by decide +kernel
theorem dJ5_setLength_d00df_49 : decode cJ5_setLength_d00df 49 = .ok (.getfield 15, 3) := by decide +kernel
theorem dJ5_setLength_d00df_52 : decode cJ5_setLength_d00df 52 = .ok (.aload_n 0, 1) := by decide +kernel
theorem dJ5_setLength_d00df_53 : decode cJ5_setLength_d00df 53 = .ok (.getfield 79, 3) := by decide +kernel
theorem dJ5_setLength_d00df_56 : decode cJ5_setLength_d00df 56 = .ok (.iload_n 1, 1) := by decide +kernel
theorem dJ5_setLength_d00df_57 : decode cJ5_setLength_d00df 57 = .ok (.invokestatic 137, 3) := by decide +kernel
theorem dJ5_setLength_d00df_60 : decode cJ5_setLength_d00df 60 = .ok (.goto 16, 3) := by decide +kernel
theorem dJ5_setLength_d00df_63 : decode cJ5_setLength_d00df 63 = .ok (.aload_n 0, 1) := by decide +kernel
theorem dJ5_setLength_d00df_64 : decode cJ5_setLength_d00df 64 = .ok (.getfield 79, 3) := by decide +kernel
theorem dJ5_setLength_d00df_67 : decode cJ5_setLength_d00df 67 = .ok (.iload_n 1, 1) := by decide +kernel
theorem dJ5_setLength_d00df_68 : decode cJ5_setLength_d00df 68 = .ok (.if_icmp .le 8, 3) := by decide +kernel
theorem dJ5_setLength_d00df_71 : decode cJ5_setLength_d00df 71 = .ok (.aload_n 0, 1) := by decide +kernel
theorem dJ5_setLength_d00df_72 : decode cJ5_setLength_d00df 72 = .ok (.iconst 1, 1) := by decide +kernel
theorem dJ5_setLength_d00df_73 : decode cJ5_setLength_d00df 73 = .ok (.putfield 73, 3) := by decide +kernel
theorem dJ5_setLength_d00df_76 : decode cJ5_setLength_d00df 76 = .ok (.aload_n 0, 1) := by decide +kernel
theorem dJ5_setLength_d00df_77 : decode cJ5_setLength_d00df 77 = .ok (.iload_n 1, 1) := by decide +kernel
theorem dJ5_setLength_d00df_78 : decode cJ5_setLength_d00df 78 = .ok (.putfield 79, 3) := by decide +kernel
theorem dJ5_setLength_d00df_81 : decode cJ5_setLength_d00df 81 = .ok (.return_, 1) := by decide +kernel
theorem dJ5_charAt_5068e_0 : decode cJ5_charAt_5068e 0 = .ok (.aload_n 0, 1) := by decide +kernel
theorem dJ5_charAt_5068e_1 : decode cJ5_charAt_5068e 1 = .ok (.getfield 22, 3) := by decide +kernel
theorem dJ5_charAt_5068e_4 : decode cJ5_charAt_5068e 4 = .ok (.istore_n 2, 1) := by decide +kernel
theorem dJ5_charAt_5068e_5 : decode cJ5_charAt_5068e 5 = .ok (.aload_n 0, 1) := by decide +kernel
theorem dJ5_charAt_5068e_6 : decode cJ5_charAt_5068e 6 = .ok (.getfield 15, 3) := by decide +kernel
theorem dJ5_charAt_5068e_9 : decode cJ5_charAt_5068e 9 = .ok (.astore_n 3, 1) := by decide +kernel
theorem dJ5_charAt_5068e_10 : decode cJ5_charAt_5068e 10 = .ok (.aload_n 0, 1) := by decide +kernel
theorem dJ5_charAt_5068e_11 : decode cJ5_charAt_5068e 11 = .ok (.getfield 79, 3) := by decide +kernel
theorem dJ5_charAt_5068e_14 : decode cJ5_charAt_5068e 14 = .ok (.aload_n 3, 1) := by decide +kernel
theorem dJ5_charAt_5068e_15 : decode cJ5_charAt_5068e 15 = .ok (.arraylength, 1) := by decide +kernel
theorem dJ5_charAt_5068e_16 : decode cJ5_charAt_5068e 16 = .ok (.iload_n 2, 1) := by decide +kernel
theorem dJ5_charAt_5068e_17 : decode cJ5_charAt_5068e 17 = .ok (.ishr, 1) := by decide +kernel
theorem dJ5_charAt_5068e_18 : decode cJ5_charAt_5068e 18 = .ok (.invokestatic 138, 3) := by decide +kernel
theorem dJ5_charAt_5068e_21 : decode cJ5_charAt_5068e 21 = .ok (.istore 4, 2) := by decide +kernel
theorem dJ5_charAt_5068e_23 : decode cJ5_charAt_5068e 23 = .ok (.iload_n 1, 1) := by decide +kernel
theorem dJ5_charAt_5068e_24 : decode cJ5_charAt_5068e 24 = .ok (.iload 4, 2) := by decide +kernel
theorem dJ5_charAt_5068e_26 : decode cJ5_charAt_5068e 26 = .ok (.invokestatic 144, 3) := by decide +kernel
theorem dJ5_charAt_5068e_29 : decode cJ5_charAt_5068e 29 = .ok (.iload_n 2, 1) := by decide +kernel
theorem dJ5_charAt_5068e_30 : decode cJ5_charAt_5068e 30 = .ok (.ifCond .ne 12, 3) := by decide +kernel
theorem dJ5_charAt_5068e_33 : decode cJ5_charAt_5068e 33 = .ok (.aload_n 3, 1) := by decide +kernel
theorem dJ5_charAt_5068e_34 : decode cJ5_charAt_5068e 34 = .ok (.iload_n 1, 1) := by decide +kernel
theorem dJ5_charAt_5068e_35 : decode cJ5_charAt_5068e 35 = .ok (.baload, 1) := by decide +kernel
theorem dJ5_charAt_5068e_36 : decode cJ5_charAt_5068e 36 = .ok (.sipush 255, 3) := by decide +kernel
theorem dJ5_charAt_5068e_39 : decode cJ5_charAt_5068e 39 = .ok (.iand, 1) := by decide +kernel
theorem dJ5_charAt_5068e_40 : decode cJ5_charAt_5068e 40 = .ok (.i2c, 1) := by decide +kernel
theorem dJ5_charAt_5068e_41 : decode cJ5_charAt_5068e 41 = .ok (.ireturn, 1) := by decide +kernel
theorem dJ5_charAt_5068e_42 : decode cJ5_charAt_5068e 42 = .ok (.aload_n 3, 1) := by decide +kernel
theorem dJ5_charAt_5068e_43 : decode cJ5_charAt_5068e 43 = .ok (.iload_n 1, 1) := by decide +kernel
theorem dJ5_charAt_5068e_44 : decode cJ5_charAt_5068e 44 = .ok (.invokestatic 148, 3) := by decide +kernel
theorem dJ5_charAt_5068e_47 : decode cJ5_charAt_5068e 47 = .ok (.ireturn, 1) := by decide +kernel
theorem dJ5_append_cf1ce_0 : decode cJ5_append_cf1ce 0 = .ok (.aload_n 1, 1) := by decide +kernel
theorem dJ5_append_cf1ce_1 : decode cJ5_append_cf1ce 1 = .ok (.ifnonnull 8, 3) := by decide +kernel
theorem dJ5_append_cf1ce_4 : decode cJ5_append_cf1ce 4 = .ok (.aload_n 0, 1) := by decide +kernel
theorem dJ5_append_cf1ce_5 : decode cJ5_append_cf1ce 5 = .ok (.invokevirtual 204, 3) := by decide +kernel
theorem dJ5_append_cf1ce_8 : decode cJ5_append_cf1ce 8 = .ok (.areturn, 1) := by decide +kernel
theorem dJ5_append_cf1ce_9 : decode cJ5_append_cf1ce 9 = .ok (.aload_n 1, 1) := by decide +kernel
theorem dJ5_append_cf1ce_10 : decode cJ5_append_cf1ce 10 = .ok (.invokevirtual 32, 3) := by decide +kernel
theorem dJ5_append_cf1ce_13 : decode cJ5_append_cf1ce 13 = .ok (.istore_n 2, 1) := by decide +kernel
theorem dJ5_append_cf1ce_14 : decode cJ5_append_cf1ce 14 = .ok (.aload_n 0, 1) := by decide +kernel
theorem dJ5_append_cf1ce_15 : decode cJ5_append_cf1ce 15 = .ok (.aload_n 0, 1) := by decide +kernel
theorem dJ5_append_cf1ce_16 : decode cJ5_append_cf1ce 16 = .ok (.getfield 79, 3) := by decide +kernel
theorem dJ5_append_cf1ce_19 : decode cJ5_append_cf1ce 19 = .ok (.iload_n 2, 1) := by decide +kernel
theorem dJ5_append_cf1ce_20 : decode cJ5_append_cf1ce 20 = .ok (.iadd, 1) := by decide +kernel
theorem dJ5_append_cf1ce_21 : decode cJ5_append_cf1ce 21 = .ok (.invokevirtual 100, 3) := by decide +kernel
theorem dJ5_append_cf1ce_24 : decode cJ5_append_cf1ce 24 = .ok (.aload_n 0, 1) := by decide +kernel
theorem dJ5_append_cf1ce_25 : decode cJ5_append_cf1ce 25 = .ok (.aload_n 0, 1) := by decide +kernel
theorem dJ5_append_cf1ce_26 : decode cJ5_append_cf1ce 26 = .ok (.getfield 79, 3) := by decide +kernel
theorem dJ5_append_cf1ce_29 : decode cJ5_append_cf1ce 29 = .ok (.aload_n 1, 1) := by decide +kernel
theorem dJ5_append_cf1ce_30 : decode cJ5_append_cf1ce 30 = .ok (.invokevirtual 208, 3) := by decide +kernel
theorem dJ5_append_cf1ce_33 : decode cJ5_append_cf1ce 33 = .ok (.aload_n 0, 1) := by decide +kernel
theorem dJ5_append_cf1ce_34 : decode cJ5_append_cf1ce 34 = .ok (.dup, 1) := by decide +kernel
theorem dJ5_append_cf1ce_35 : decode cJ5_append_cf1ce 35 = .ok (.getfield 79, 3) := by decide +kernel
theorem dJ5_append_cf1ce_38 : decode cJ5_append_cf1ce 38 = .ok (.iload_n 2, 1) := by decide +kernel
theorem dJ5_append_cf1ce_39 : decode cJ5_append_cf1ce 39 = .ok (.iadd, 1) := by decide +kernel
theorem dJ5_append_cf1ce_40 : decode cJ5_append_cf1ce 40 = .ok (.putfield 79, 3) := by decide +kernel
theorem dJ5_append_cf1ce_43 : decode cJ5_append_cf1ce 43 = .ok (.aload_n 0, 1) := by decide +kernel
theorem dJ5_append_cf1ce_44 : decode cJ5_append_cf1ce 44 = .ok (.areturn, 1) := by decide +kernel
theorem dJ5_appendNull_278bc_0 : decode cJ5_appendNull_278bc 0 = .ok (.aload_n 0, 1) := by decide +kernel
theorem dJ5_appendNull_278bc_1 : decode cJ5_appendNull_278bc 1 = .ok (.aload_n 0, 1) := by decide +kernel
theorem dJ5_appendNull_278bc_2 : decode cJ5_appendNull_278bc 2 = .ok (.getfield 79, 3) := by decide +kernel
theorem dJ5_appendNull_278bc_5 : decode cJ5_appendNull_278bc 5 = .ok (.iconst 4, 1) := by decide +kernel
theorem dJ5_appendNull_278bc_6 : decode cJ5_appendNull_278bc 6 = .ok (.iadd, 1) := by decide +kernel
theorem dJ5_appendNull_278bc_7 : decode cJ5_appendNull_278bc 7 = .ok (.invokevirtual 100, 3) := by decide +kernel
theorem dJ5_appendNull_278bc_10 : decode cJ5_appendNull_278bc 10 = .ok (.aload_n 0, 1) := by decide +kernel
theorem dJ5_appendNull_278bc_11 : decode cJ5_appendNull_278bc 11 = .ok (.getfield 79, 3) := by decide +kernel
theorem dJ5_appendNull_278bc_14 : decode cJ5_appendNull_278bc 14 = .ok (.istore_n 1, 1) := by decide +kernel
theorem dJ5_appendNull_278bc_15 : decode cJ5_appendNull_278bc 15 = .ok (.aload_n 0, 1) := by decide +kernel
theorem dJ5_appendNull_278bc_16 : decode cJ5_appendNull_278bc 16 = .ok (.getfield 15, 3) := by decide +kernel
theorem dJ5_appendNull_278bc_19 : decode cJ5_appendNull_278bc 19 = .ok (.astore_n 2, 1) := by decide +kernel
theorem dJ5_appendNull_278bc_20 : decode cJ5_appendNull_278bc 20 = .ok (.aload_n 0, 1) := by decide +kernel
theorem dJ5_appendNull_278bc_21 : decode cJ5_appendNull_278bc 21 = .ok (.invokevirtual 83, 3) := by decide +kernel
theorem dJ5_appendNull_278bc_24 : decode cJ5_appendNull_278bc 24 = .ok (.ifCond .eq 38, 3) := by decide +kernel
theorem dJ5_appendNull_278bc_27 : decode cJ5_appendNull_278bc 27 = .ok (.aload_n 2, 1) := by decide +kernel
theorem dJ5_appendNull_278bc_28 : decode cJ5_appendNull_278bc 28 = .ok (.iload_n 1, 1) := by decide +kernel
theorem dJ5_appendNull_278bc_29 : decode cJ5_appendNull_278bc 29 = .ok (.iinc 1 1, 3) := by decide +kernel
theorem dJ5_appendNull_278bc_32 : decode cJ5_appendNull_278bc 32 = .ok (.bipush 110, 2) := by decide +kernel
theorem dJ5_appendNull_278bc_34 : decode cJ5_appendNull_278bc 34 = .ok (.bastore, 1) := by decide +kernel
theorem dJ5_appendNull_278bc_35 : decode cJ5_appendNull_278bc 35 = .ok (.aload_n 2, 1) := by decide +kernel
theorem dJ5_appendNull_278bc_36 : decode cJ5_appendNull_278bc 36 = .ok (.iload_n 1, 1) := by decide +kernel
theorem dJ5_appendNull_278bc_37 : decode cJ5_appendNull_278bc 37 = .ok (.iinc 1 1, 3) := by decide +kernel
theorem dJ5_appendNull_278bc_40 : decode cJ5_appendNull_278bc 40 = .ok (.bipush 117, 2) := by decide +kernel
theorem dJ5_appendNull_278bc_42 : decode cJ5_appendNull_278bc 42 = .ok (.bastore, 1) := by decide +kernel
theorem dJ5_appendNull_278bc_43 : decode cJ5_appendNull_278bc 43 = .ok (.aload_n 2, 1) := by decide +kernel
theorem dJ5_appendNull_278bc_44 : decode cJ5_appendNull_278bc 44 = .ok (.iload_n 1, 1) := by decide +kernel
theorem dJ5_appendNull_278bc_45 : decode cJ5_appendNull_278bc 45 = .ok (.iinc 1 1, 3) := by decide +kernel
theorem dJ5_appendNull_278bc_48 : decode cJ5_appendNull_278bc 48 = .ok (.bipush 108, 2) := by decide +kernel
theorem dJ5_appendNull_278bc_50 : decode cJ5_appendNull_278bc 50 = .ok (.bastore, 1) := by decide +kernel
theorem dJ5_appendNull_278bc_51 : decode cJ5_appendNull_278bc 51 = .ok (.aload_n 2, 1) := by decide +kernel
theorem dJ5_appendNull_278bc_52 : decode cJ5_appendNull_278bc 52 = .ok (.iload_n 1, 1) := by decide +kernel
theorem dJ5_appendNull_278bc_53 : decode cJ5_appendNull_278bc 53 = .ok (.iinc 1 1, 3) := by decide +kernel
theorem dJ5_appendNull_278bc_56 : decode cJ5_appendNull_278bc 56 = .ok (.bipush 108, 2) := by decide +kernel
theorem dJ5_appendNull_278bc_58 : decode cJ5_appendNull_278bc 58 = .ok (.bastore, 1) := by decide +kernel
theorem dJ5_appendNull_278bc_59 : decode cJ5_appendNull_278bc 59 = .ok (.goto 17, 3) := by decide +kernel
theorem dJ5_appendNull_278bc_62 : decode cJ5_appendNull_278bc 62 = .ok (.aload_n 2, 1) := by decide +kernel
theorem dJ5_appendNull_278bc_63 : decode cJ5_appendNull_278bc 63 = .ok (.iload_n 1, 1) := by decide +kernel
theorem dJ5_appendNull_278bc_64 : decode cJ5_appendNull_278bc 64 = .ok (.bipush 110, 2) := by decide +kernel
theorem dJ5_appendNull_278bc_66 : decode cJ5_appendNull_278bc 66 = .ok (.bipush 117, 2) := by decide +kernel
theorem dJ5_appendNull_278bc_68 : decode cJ5_appendNull_278bc 68 = .ok (.bipush 108, 2) := by decide +kernel
theorem dJ5_appendNull_278bc_70 : decode cJ5_appendNull_278bc 70 = .ok (.bipush 108, 2) := by decide +kernel
theorem dJ5_appendNull_278bc_72 : decode cJ5_appendNull_278bc 72 = .ok (.invokestatic 226, 3) := by decide +kernel
theorem dJ5_appendNull_278bc_75 : decode cJ5_appendNull_278bc 75 = .ok (.istore_n 1, 1) := by decide +kernel
theorem dJ5_appendNull_278bc_76 : decode cJ5_appendNull_278bc 76 = .ok (.aload_n 0, 1) := by decide +kernel
theorem dJ5_appendNull_278bc_77 : decode cJ5_appendNull_278bc 77 = .ok (.iload_n 1, 1) := by decide +kernel
theorem dJ5_appendNull_278bc_78 : decode cJ5_appendNull_278bc 78 = .ok (.putfield 79, 3) := by decide +kernel
theorem dJ5_appendNull_278bc_81 : decode cJ5_appendNull_278bc 81 = .ok (.aload_n 0, 1) := by decide +kernel
theorem dJ5_appendNull_278bc_82 : decode cJ5_appendNull_278bc 82 = .ok (.areturn, 1) := by decide +kernel
theorem dJ5_append_3fe6f_0 : decode cJ5_append_3fe6f 0 = .ok (.aload_n 0, 1) := by decide +kernel
theorem dJ5_append_3fe6f_1 : decode cJ5_append_3fe6f 1 = .ok (.aload_n 0, 1) := by decide +kernel
theorem dJ5_append_3fe6f_2 : decode cJ5_append_3fe6f 2 = .ok (.getfield 79, 3) := by decide +kernel
theorem dJ5_append_3fe6f_5 : decode cJ5_append_3fe6f 5 = .ok (.iconst 1, 1) := by decide +kernel
theorem dJ5_append_3fe6f_6 : decode cJ5_append_3fe6f 6 = .ok (.iadd, 1) := by decide +kernel
theorem dJ5_append_3fe6f_7 : decode cJ5_append_3fe6f 7 = .ok (.invokevirtual 100, 3) := by decide +kernel
theorem dJ5_append_3fe6f_10 : decode cJ5_append_3fe6f 10 = .ok (.aload_n 0, 1) := by decide +kernel
theorem dJ5_append_3fe6f_11 : decode cJ5_append_3fe6f 11 = .ok (.invokevirtual 83, 3) := by decide +kernel
theorem dJ5_append_3fe6f_14 : decode cJ5_append_3fe6f 14 = .ok (.ifCond .eq 31, 3) := by decide +kernel
theorem dJ5_append_3fe6f_17 : decode cJ5_append_3fe6f 17 = .ok (.iload_n 1, 1) := by decide +kernel
theorem dJ5_append_3fe6f_18 : decode cJ5_append_3fe6f 18 = .ok (.invokestatic 191, 3) := by decide +kernel
theorem dJ5_append_3fe6f_21 : decode cJ5_append_3fe6f 21 = .ok (.ifCond .eq 24, 3) := by decide +kernel
theorem dJ5_append_3fe6f_24 : decode cJ5_append_3fe6f 24 = .ok (.aload_n 0, 1) := by decide +kernel
theorem dJ5_append_3fe6f_25 : decode cJ5_append_3fe6f 25 = .ok (.getfield 15, 3) := by decide +kernel
theorem dJ5_append_3fe6f_28 : decode cJ5_append_3fe6f 28 = .ok (.aload_n 0, 1) := by decide +kernel
theorem dJ5_append_3fe6f_29 : decode cJ5_append_3fe6f 29 = .ok (.dup, 1) := by decide +kernel
theorem dJ5_append_3fe6f_30 : decode cJ5_append_3fe6f 30 = .ok (.getfield 79, 3) := by decide +kernel
theorem dJ5_append_3fe6f_33 : decode cJ5_append_3fe6f 33 = .ok (.dup_x1, 1) := by decide +kernel
theorem dJ5_append_3fe6f_34 : decode cJ5_append_3fe6f 34 = .ok (.iconst 1, 1) := by decide +kernel
theorem dJ5_append_3fe6f_35 : decode cJ5_append_3fe6f 35 = .ok (.iadd, 1) := by decide +kernel
theorem dJ5_append_3fe6f_36 : decode cJ5_append_3fe6f 36 = .ok (.putfield 79, 3) := by decide +kernel
theorem dJ5_append_3fe6f_39 : decode cJ5_append_3fe6f 39 = .ok (.iload_n 1, 1) := by decide +kernel
theorem dJ5_append_3fe6f_40 : decode cJ5_append_3fe6f 40 = .ok (.i2b, 1) := by decide +kernel
theorem dJ5_append_3fe6f_41 : decode cJ5_append_3fe6f 41 = .ok (.bastore, 1) := by decide +kernel
theorem dJ5_append_3fe6f_42 : decode cJ5_append_3fe6f 42 = .ok (.goto 33, 3) := by decide +kernel
theorem dJ5_append_3fe6f_45 : decode cJ5_append_3fe6f 45 = .ok (.aload_n 0, 1) := by decide +kernel
theorem dJ5_append_3fe6f_46 : decode cJ5_append_3fe6f 46 = .ok (.invokevirtual 83, 3) := by decide +kernel
theorem dJ5_append_3fe6f_49 : decode cJ5_append_3fe6f 49 = .ok (.ifCond .eq 7, 3) := by decide +kernel
theorem dJ5_append_3fe6f_52 : decode cJ5_append_3fe6f 52 = .ok (.aload_n 0, 1) := by decide +kernel
theorem dJ5_append_3fe6f_53 : decode cJ5_append_3fe6f 53 = .ok (.invokevirtual 195, 3) := by decide +kernel
theorem dJ5_append_3fe6f_56 : decode cJ5_append_3fe6f 56 = .ok (.aload_n 0, 1) := by decide +kernel
theorem dJ5_append_3fe6f_57 : decode cJ5_append_3fe6f 57 = .ok (.getfield 15, 3) := by decide +kernel
theorem dJ5_append_3fe6f_60 : decode cJ5_append_3fe6f 60 = .ok (.aload_n 0, 1) := by decide +kernel
theorem dJ5_append_3fe6f_61 : decode cJ5_append_3fe6f 61 = .ok (.dup, 1) := by decide +kernel
theorem dJ5_append_3fe6f_62 : decode cJ5_append_3fe6f 62 = .ok (.getfield 79, 3) := by decide +kernel
theorem dJ5_append_3fe6f_65 : decode cJ5_append_3fe6f 65 = .ok (.dup_x1, 1) := by decide +kernel
theorem dJ5_append_3fe6f_66 : decode cJ5_append_3fe6f 66 = .ok (.iconst 1, 1) := by decide +kernel
theorem dJ5_append_3fe6f_67 : decode cJ5_append_3fe6f 67 = .ok (.iadd, 1) := by decide +kernel
theorem dJ5_append_3fe6f_68 : decode cJ5_append_3fe6f 68 = .ok (.putfield 79, 3) := by decide +kernel
theorem dJ5_append_3fe6f_71 : decode cJ5_append_3fe6f 71 = .ok (.iload_n 1, 1) := by decide +kernel
theorem dJ5_append_3fe6f_72 : decode cJ5_append_3fe6f 72 = .ok (.invokestatic 197, 3) := by decide +kernel
theorem dJ5_append_3fe6f_75 : decode cJ5_append_3fe6f 75 = .ok (.aload_n 0, 1) := by decide +kernel
theorem dJ5_append_3fe6f_76 : decode cJ5_append_3fe6f 76 = .ok (.areturn, 1) := by decide +kernel
theorem dJ5_append_c97b9_0 : decode cJ5_append_c97b9 0 = .ok (.aload_n 0, 1) := by decide +kernel
theorem dJ5_append_c97b9_1 : decode cJ5_append_c97b9 1 = .ok (.getfield 79, 3) := by decide +kernel
theorem dJ5_append_c97b9_4 : decode cJ5_append_c97b9 4 = .ok (.istore_n 2, 1) := by decide +kernel
theorem dJ5_append_c97b9_5 : decode cJ5_append_c97b9 5 = .ok (.iload_n 2, 1) := by decide +kernel
theorem dJ5_append_c97b9_6 : decode cJ5_append_c97b9 6 = .ok (.iload_n 1, 1) := by decide +kernel
theorem dJ5_append_c97b9_7 : decode cJ5_append_c97b9 7 = .ok (.invokestatic 245, 3) := by decide +kernel
theorem dJ5_append_c97b9_10 : decode cJ5_append_c97b9 10 = .ok (.iadd, 1) := by decide +kernel
theorem dJ5_append_c97b9_11 : decode cJ5_append_c97b9 11 = .ok (.istore_n 3, 1) := by decide +kernel
theorem dJ5_append_c97b9_12 : decode cJ5_append_c97b9 12 = .ok (.aload_n 0, 1) := by decide +kernel
theorem dJ5_append_c97b9_13 : decode cJ5_append_c97b9 13 = .ok (.iload_n 3, 1) := by decide +kernel
theorem dJ5_append_c97b9_14 : decode cJ5_append_c97b9 14 = .ok (.invokevirtual 100, 3) := by decide +kernel
theorem dJ5_append_c97b9_17 : decode cJ5_append_c97b9 17 = .ok (.aload_n 0, 1) := by decide +kernel
theorem dJ5_append_c97b9_18 : decode cJ5_append_c97b9 18 = .ok (.invokevirtual 83, 3) := by decide +kernel
theorem dJ5_append_c97b9_21 : decode cJ5_append_c97b9 21 = .ok (.ifCond .eq 16, 3) := by decide +kernel
theorem dJ5_append_c97b9_24 : decode cJ5_append_c97b9 24 = .ok (.iload_n 1, 1) := by decide +kernel
theorem dJ5_append_c97b9_25 : decode cJ5_append_c97b9 25 = .ok (.iload_n 3, 1) := by decide +kernel
theorem dJ5_append_c97b9_26 : decode cJ5_append_c97b9 26 = .ok (.aload_n 0, 1) := by decide +kernel
theorem dJ5_append_c97b9_27 : decode cJ5_append_c97b9 27 = .ok (.getfield 15, 3) := by decide +kernel
theorem dJ5_append_c97b9_30 : decode cJ5_append_c97b9 30 = .ok (.invokestatic 248, 3) := by decide +kernel
theorem dJ5_append_c97b9_33 : decode cJ5_append_c97b9 33 = .ok (.pop, 1) := by decide +kernel
theorem dJ5_append_c97b9_34 : decode cJ5_append_c97b9 34 = .ok (.goto 14, 3) := by decide +kernel
theorem dJ5_append_c97b9_37 : decode cJ5_append_c97b9 37 = .ok (.iload_n 1, 1) := by decide +kernel
theorem dJ5_append_c97b9_38 : decode cJ5_append_c97b9 38 = .ok (.iload_n 2, 1) := by decide +kernel
theorem dJ5_append_c97b9_39 : decode cJ5_append_c97b9 39 = .ok (.iload_n 3, 1) := by decide +kernel
theorem dJ5_append_c97b9_40 : decode cJ5_append_c97b9 40 = .ok (.aload_n 0, 1) := by decide +kernel
theorem dJ5_append_c97b9_41 : decode cJ5_append_c97b9 41 = .ok (.getfield 15, 3) := by decide +kernel
theorem dJ5_append_c97b9_44 : decode cJ5_append_c97b9 44 = .ok (.invokestatic 251, 3) := by decide +kernel
theorem dJ5_append_c97b9_47 : decode cJ5_append_c97b9 47 = .ok (.pop, 1) := by decide +kernel
theorem dJ5_append_c97b9_48 : decode cJ5_append_c97b9 48 = .ok (.aload_n 0, 1) := by decide +kernel
theorem dJ5_append_c97b9_49 : decode cJ5_append_c97b9 49 = .ok (.iload_n 3, 1) := by decide +kernel
theorem dJ5_append_c97b9_50 : decode cJ5_append_c97b9 50 = .ok (.putfield 79, 3) := by decide +kernel
theorem dJ5_append_c97b9_53 : decode cJ5_append_c97b9 53 = .ok (.aload_n 0, 1) := by decide +kernel
theorem dJ5_append_c97b9_54 : decode cJ5_append_c97b9 54 = .ok (.areturn, 1) := by decide +kernel
theorem dJ5_getValue_6d5f1_0 : decode cJ5_getValue_6d5f1 0 = .ok (.aload_n 0, 1) := by decide +kernel
theorem dJ5_getValue_6d5f1_1 : decode cJ5_getValue_6d5f1 1 = .ok (.getfield 15, 3) := by decide +kernel
theorem dJ5_getValue_6d5f1_4 : decode cJ5_getValue_6d5f1 4 = .ok (.areturn, 1) := by decide +kernel
theorem dJ5_isLatin1_aae02_0 : decode cJ5_isLatin1_aae02 0 = .ok (.getstatic 18, 3) := by decide +kernel
theorem dJ5_isLatin1_aae02_3 : decode cJ5_isLatin1_aae02 3 = .ok (.ifCond .eq 14, 3) := by decide +kernel
theorem dJ5_isLatin1_aae02_6 : decode cJ5_isLatin1_aae02 6 = .ok (.aload_n 0, 1) := by decide +kernel
theorem dJ5_isLatin1_aae02_7 : decode cJ5_isLatin1_aae02 7 = .ok (.getfield 22, 3) := by decide +kernel
theorem dJ5_isLatin1_aae02_10 : decode cJ5_isLatin1_aae02 10 = .ok (.ifCond .ne 7, 3) := by decide +kernel
theorem dJ5_isLatin1_aae02_13 : decode cJ5_isLatin1_aae02 13 = .ok (.iconst 1, 1) := by decide +kernel
theorem dJ5_isLatin1_aae02_14 : decode cJ5_isLatin1_aae02 14 = .ok (.goto 4, 3) := by decide +kernel
theorem dJ5_isLatin1_aae02_17 : decode cJ5_isLatin1_aae02 17 = .ok (.iconst 0, 1) := by decide +kernel
theorem dJ5_isLatin1_aae02_18 : decode cJ5_isLatin1_aae02 18 = .ok (.ireturn, 1) := by decide +kernel
theorem dJ5_inflateIfNeededFor_a7421_0 : decode cJ5_inflateIfNeededFor_a7421 0 = .ok (.getstatic 18, 3) := by decide +kernel
theorem dJ5_inflateIfNeededFor_a7421_3 : decode cJ5_inflateIfNeededFor_a7421 3 = .ok (.ifCond .eq 18, 3) := by decide +kernel
theorem dJ5_inflateIfNeededFor_a7421_6 : decode cJ5_inflateIfNeededFor_a7421 6 = .ok (.aload_n 0, 1) := by decide +kernel
theorem dJ5_inflateIfNeededFor_a7421_7 : decode cJ5_inflateIfNeededFor_a7421 7 = .ok (.getfield 22, 3) := by decide +kernel
theorem dJ5_inflateIfNeededFor_a7421_10 : decode cJ5_inflateIfNeededFor_a7421 10 = .ok (.aload_n 1, 1) := by decide +kernel
theorem dJ5_inflateIfNeededFor_a7421_11 : decode cJ5_inflateIfNeededFor_a7421 11 = .ok (.invokevirtual 40, 3) := by decide +kernel
theorem dJ5_inflateIfNeededFor_a7421_14 : decode cJ5_inflateIfNeededFor_a7421 14 = .ok (.if_icmp .eq 7, 3) := by decide +kernel
theorem dJ5_inflateIfNeededFor_a7421_17 : decode cJ5_inflateIfNeededFor_a7421 17 = .ok (.aload_n 0, 1) := by decide +kernel
theorem dJ5_inflateIfNeededFor_a7421_18 : decode cJ5_inflateIfNeededFor_a7421 18 = .ok (.invokevirtual 195, 3) := by decide +kernel
theorem dJ5_inflateIfNeededFor_a7421_21 : decode cJ5_inflateIfNeededFor_a7421 21 = .ok (.return_, 1) := by decide +kernel
theorem dJ5_putStringAt_47b60_0 : decode cJ5_putStringAt_47b60 0 = .ok (.aload_n 0, 1) := by decide +kernel
theorem dJ5_putStringAt_47b60_1 : decode cJ5_putStringAt_47b60 1 = .ok (.aload_n 2, 1) := by decide +kernel
theorem dJ5_putStringAt_47b60_2 : decode cJ5_putStringAt_47b60 2 = .ok (.invokevirtual 397, 3) := by decide +kernel
theorem dJ5_putStringAt_47b60_5 : decode cJ5_putStringAt_47b60 5 = .ok (.aload_n 2, 1) := by decide +kernel
theorem dJ5_putStringAt_47b60_6 : decode cJ5_putStringAt_47b60 6 = .ok (.aload_n 0, 1) := by decide +kernel
theorem dJ5_putStringAt_47b60_7 : decode cJ5_putStringAt_47b60 7 = .ok (.getfield 15, 3) := by decide +kernel
theorem dJ5_putStringAt_47b60_10 : decode cJ5_putStringAt_47b60 10 = .ok (.iload_n 1, 1) := by decide +kernel
theorem dJ5_putStringAt_47b60_11 : decode cJ5_putStringAt_47b60 11 = .ok (.aload_n 0, 1) := by decide +kernel
theorem dJ5_putStringAt_47b60_12 : decode cJ5_putStringAt_47b60 12 = .ok (.getfield 22, 3) := by decide +kernel
theorem dJ5_putStringAt_47b60_15 : decode cJ5_putStringAt_47b60 15 = .ok (.invokevirtual 399, 3) := by decide +kernel
theorem dJ5_putStringAt_47b60_18 : decode cJ5_putStringAt_47b60 18 = .ok (.return_, 1) := by decide +kernel
theorem dJx00060_init_d00df_0 : decode cJx00060_init_d00df 0 = .ok (.aload_n 0, 1) := by decide +kernel
theorem dJx00060_init_d00df_1 : decode cJx00060_init_d00df 1 = .ok (.new 10, 3) := by decide +kernel
theorem dJx00060_init_d00df_4 : decode cJx00060_init_d00df 4 = .ok (.dup, 1) := by decide +kernel
theorem dJx00060_init_d00df_5 : decode cJx00060_init_d00df 5 = .ok (.invokespecial 12, 3) := by decide +kernel
theorem dJx00060_init_d00df_8 : decode cJx00060_init_d00df 8 = .ok (.ldc 13, 2) := by decide +kernel
theorem dJx00060_init_d00df_10 : decode cJx00060_init_d00df 10 = .ok (.invokevirtual 15, 3) := by decide +kernel
theorem dJx00060_init_d00df_13 : decode cJx00060_init_d00df 13 = .ok (.iload_n 1, 1) := by decide +kernel
theorem dJx00060_init_d00df_14 : decode cJx00060_init_d00df 14 = .ok (.invokevirtual 19, 3) := by decide +kernel
theorem dJx00060_init_d00df_17 : decode cJx00060_init_d00df 17 = .ok (.invokevirtual 22, 3) := by decide +kernel
theorem dJx00060_init_d00df_20 : decode cJx00060_init_d00df 20 = .ok (.invokespecial 7, 3) := by decide +kernel
theorem dJx00060_init_d00df_23 : decode cJx00060_init_d00df 23 = .ok (.return_, 1) := by decide +kernel
theorem dJ6_getChars_ba4f3_0 : decode cJ6_getChars_ba4f3 0 = .ok (.iload_n 1, 1) := by decide +kernel
theorem dJ6_getChars_ba4f3_1 : decode cJ6_getChars_ba4f3 1 = .ok (.istore 5, 2) := by decide +kernel
theorem dJ6_getChars_ba4f3_3 : decode cJ6_getChars_ba4f3 3 = .ok (.iload_n 0, 1) := by decide +kernel
theorem dJ6_getChars_ba4f3_4 : decode cJ6_getChars_ba4f3 4 = .ok (.ifCond .ge 7, 3) := by decide +kernel
theorem dJ6_getChars_ba4f3_7 : decode cJ6_getChars_ba4f3 7 = .ok (.iconst 1, 1) := by decide +kernel
theorem dJ6_getChars_ba4f3_8 : decode cJ6_getChars_ba4f3 8 = .ok (.goto 4, 3) := by decide +kernel
theorem dJ6_getChars_ba4f3_11 : decode cJ6_getChars_ba4f3 11 = .ok (.iconst 0, 1) := by decide +kernel
theorem dJ6_getChars_ba4f3_12 : decode cJ6_getChars_ba4f3 12 = .ok (.istore 6, 2) := by decide +kernel
theorem dJ6_getChars_ba4f3_14 : decode cJ6_getChars_ba4f3 14 = .ok (.iload 6, 2) := by decide +kernel
theorem dJ6_getChars_ba4f3_16 : decode cJ6_getChars_ba4f3 16 = .ok (.ifCond .ne 6, 3) := by decide +kernel
theorem dJ6_getChars_ba4f3_19 : decode cJ6_getChars_ba4f3 19 = .ok (.iload_n 0, 1) := by decide +kernel
theorem dJ6_getChars_ba4f3_20 : decode cJ6_getChars_ba4f3 20 = .ok (.ineg, 1) := by decide +kernel
theorem dJ6_getChars_ba4f3_21 : decode cJ6_getChars_ba4f3 21 = .ok (.istore_n 0, 1) := by decide +kernel
theorem dJ6_getChars_ba4f3_22 : decode cJ6_getChars_ba4f3 22 = .ok (.iload_n 0, 1) := by decide +kernel
theorem dJ6_getChars_ba4f3_23 : decode cJ6_getChars_ba4f3 23 = .ok (.bipush (-100), 2) := by decide +kernel
theorem dJ6_getChars_ba4f3_25 : decode cJ6_getChars_ba4f3 25 = .ok (.if_icmp .gt 47, 3) := by decide +kernel
theorem dJ6_getChars_ba4f3_28 : decode cJ6_getChars_ba4f3 28 = .ok (.iload_n 0, 1) := by decide +kernel
theorem dJ6_getChars_ba4f3_29 : decode cJ6_getChars_ba4f3 29 = .ok (.bipush 100, 2) := by decide +kernel
theorem dJ6_getChars_ba4f3_31 : decode cJ6_getChars_ba4f3 31 = .ok (.idiv, 1) := by decide +kernel
theorem dJ6_getChars_ba4f3_32 : decode cJ6_getChars_ba4f3 32 = .ok (.istore_n 3, 1) := by decide +kernel
theorem dJ6_getChars_ba4f3_33 : decode cJ6_getChars_ba4f3 33 = .ok (.iload_n 3, 1) := by decide +kernel
theorem dJ6_getChars_ba4f3_34 : decode cJ6_getChars_ba4f3 34 = .ok (.bipush 100, 2) := by decide +kernel
theorem dJ6_getChars_ba4f3_36 : decode cJ6_getChars_ba4f3 36 = .ok (.imul, 1) := by decide +kernel
theorem dJ6_getChars_ba4f3_37 : decode cJ6_getChars_ba4f3 37 = .ok (.iload_n 0, 1) := by decide +kernel
theorem dJ6_getChars_ba4f3_38 : decode cJ6_getChars_ba4f3 38 = .ok (.isub, 1) := by decide +kernel
theorem dJ6_getChars_ba4f3_39 : decode cJ6_getChars_ba4f3 39 = .ok (.istore 4, 2) := by decide +kernel
theorem dJ6_getChars_ba4f3_41 : decode cJ6_getChars_ba4f3 41 = .ok (.iload_n 3, 1) := by decide +kernel
theorem dJ6_getChars_ba4f3_42 : decode cJ6_getChars_ba4f3 42 = .ok (.istore_n 0, 1) := by decide +kernel
theorem dJ6_getChars_ba4f3_43 : decode cJ6_getChars_ba4f3 43 = .ok (.aload_n 2, 1) := by decide +kernel
theorem dJ6_getChars_ba4f3_44 : decode cJ6_getChars_ba4f3 44 = .ok (.iinc 5 (-1), 3) := by decide +kernel
theorem dJ6_getChars_ba4f3_47 : decode cJ6_getChars_ba4f3 47 = .ok (.iload 5, 2) := by decide +kernel
theorem dJ6_getChars_ba4f3_49 : decode cJ6_getChars_ba4f3 49 = .ok (.getstatic 83, 3) := by decide +kernel
theorem dJ6_getChars_ba4f3_52 : decode cJ6_getChars_ba4f3 52 = .ok (.iload 4, 2) := by decide +kernel
theorem dJ6_getChars_ba4f3_54 : decode cJ6_getChars_ba4f3 54 = .ok (.baload, 1) := by decide +kernel
theorem dJ6_getChars_ba4f3_55 : decode cJ6_getChars_ba4f3 55 = .ok (.bastore, 1) := by decide +kernel
theorem dJ6_getChars_ba4f3_56 : decode cJ6_getChars_ba4f3 56 = .ok (.aload_n 2, 1) := by decide +kernel
theorem dJ6_getChars_ba4f3_57 : decode cJ6_getChars_ba4f3 57 = .ok (.iinc 5 (-1), 3) := by decide +kernel
theorem dJ6_getChars_ba4f3_60 : decode cJ6_getChars_ba4f3 60 = .ok (.iload 5, 2) := by decide +kernel
theorem dJ6_getChars_ba4f3_62 : decode cJ6_getChars_ba4f3 62 = .ok (.getstatic 87, 3) := by decide +kernel
theorem dJ6_getChars_ba4f3_65 : decode cJ6_getChars_ba4f3 65 = .ok (.iload 4, 2) := by decide +kernel
theorem dJ6_getChars_ba4f3_67 : decode cJ6_getChars_ba4f3 67 = .ok (.baload, 1) := by decide +kernel
theorem dJ6_getChars_ba4f3_68 : decode cJ6_getChars_ba4f3 68 = .ok (.bastore, 1) := by decide +kernel
theorem dJ6_getChars_ba4f3_69 : decode cJ6_getChars_ba4f3 69 = .ok (.goto (-47), 3) := by decide +kernel
theorem dJ6_getChars_ba4f3_72 : decode cJ6_getChars_ba4f3 72 = .ok (.aload_n 2, 1) := by decide +kernel
theorem dJ6_getChars_ba4f3_73 : decode cJ6_getChars_ba4f3 73 = .ok (.iinc 5 (-1), 3) := by decide +kernel
theorem dJ6_getChars_ba4f3_76 : decode cJ6_getChars_ba4f3 76 = .ok (.iload 5, 2) := by decide +kernel
theorem dJ6_getChars_ba4f3_78 : decode cJ6_getChars_ba4f3 78 = .ok (.getstatic 83, 3) := by decide +kernel
theorem dJ6_getChars_ba4f3_81 : decode cJ6_getChars_ba4f3 81 = .ok (.iload_n 0, 1) := by decide +kernel
theorem dJ6_getChars_ba4f3_82 : decode cJ6_getChars_ba4f3 82 = .ok (.ineg, 1) := by decide +kernel
theorem dJ6_getChars_ba4f3_83 : decode cJ6_getChars_ba4f3 83 = .ok (.baload, 1) := by decide +kernel
theorem dJ6_getChars_ba4f3_84 : decode cJ6_getChars_ba4f3 84 = .ok (.bastore, 1) := by decide +kernel
theorem dJ6_getChars_ba4f3_85 : decode cJ6_getChars_ba4f3 85 = .ok (.iload_n 0, 1) := by decide +kernel
theorem dJ6_getChars_ba4f3_86 : decode cJ6_getChars_ba4f3 86 = .ok (.bipush (-9), 2) := by decide +kernel
theorem dJ6_getChars_ba4f3_88 : decode cJ6_getChars_ba4f3 88 = .ok (.if_icmp .ge 16, 3) := by decide +kernel
theorem dJ6_getChars_ba4f3_91 : decode cJ6_getChars_ba4f3 91 = .ok (.aload_n 2, 1) := by decide +kernel
theorem dJ6_getChars_ba4f3_92 : decode cJ6_getChars_ba4f3 92 = .ok (.iinc 5 (-1), 3) := by decide +kernel
theorem dJ6_getChars_ba4f3_95 : decode cJ6_getChars_ba4f3 95 = .ok (.iload 5, 2) := by decide +kernel
theorem dJ6_getChars_ba4f3_97 : decode cJ6_getChars_ba4f3 97 = .ok (.getstatic 87, 3) := by decide +kernel
theorem dJ6_getChars_ba4f3_100 : decode cJ6_getChars_ba4f3 100 = .ok (.iload_n 0, 1) := by decide +kernel
theorem dJ6_getChars_ba4f3_101 : decode cJ6_getChars_ba4f3 101 = .ok (.ineg, 1) := by decide +kernel
theorem dJ6_getChars_ba4f3_102 : decode cJ6_getChars_ba4f3 102 = .ok (.baload, 1) := by decide +kernel
theorem dJ6_getChars_ba4f3_103 : decode cJ6_getChars_ba4f3 103 = .ok (.bastore, 1) := by decide +kernel
theorem dJ6_getChars_ba4f3_104 : decode cJ6_getChars_ba4f3 104 = .ok (.iload 6, 2) := by decide +kernel
theorem dJ6_getChars_ba4f3_106 : decode cJ6_getChars_ba4f3 106 = .ok (.ifCond .eq 12, 3) := by decide +kernel
theorem dJ6_getChars_ba4f3_109 : decode cJ6_getChars_ba4f3 109 = .ok (.aload_n 2, 1) := by decide +kernel
theorem dJ6_getChars_ba4f3_110 : decode cJ6_getChars_ba4f3 110 = .ok (.iinc 5 (-1), 3) := by decide +kernel
theorem dJ6_getChars_ba4f3_113 : decode cJ6_getChars_ba4f3 113 = .ok (.iload 5, 2) := by decide +kernel
theorem dJ6_getChars_ba4f3_115 : decode cJ6_getChars_ba4f3 115 = .ok (.bipush 45, 2) := by decide +kernel
theorem dJ6_getChars_ba4f3_117 : decode cJ6_getChars_ba4f3 117 = .ok (.bastore, 1) := by decide +kernel
theorem dJ6_getChars_ba4f3_118 : decode cJ6_getChars_ba4f3 118 = .ok (.iload 5, 2) := by decide +kernel
theorem dJ6_getChars_ba4f3_120 : decode cJ6_getChars_ba4f3 120 = .ok (.ireturn, 1) := by decide +kernel
theorem dJ6_stringSize_0f7a4_0 : decode cJ6_stringSize_0f7a4 0 = .ok (.iconst 1, 1) := by decide +kernel
theorem dJ6_stringSize_0f7a4_1 : decode cJ6_stringSize_0f7a4 1 = .ok (.istore_n 1, 1) := by decide +kernel
theorem dJ6_stringSize_0f7a4_2 : decode cJ6_stringSize_0f7a4 2 = .ok (.iload_n 0, 1) := by decide +kernel
theorem dJ6_stringSize_0f7a4_3 : decode cJ6_stringSize_0f7a4 3 = .ok (.ifCond .lt 8, 3) := by decide +kernel
theorem dJ6_stringSize_0f7a4_6 : decode cJ6_stringSize_0f7a4 6 = .ok (.iconst 0, 1) := by decide +kernel
theorem dJ6_stringSize_0f7a4_7 : decode cJ6_stringSize_0f7a4 7 = .ok (.istore_n 1, 1) := by decide +kernel
theorem dJ6_stringSize_0f7a4_8 : decode cJ6_stringSize_0f7a4 8 = .ok (.iload_n 0, 1) := by decide +kernel
theorem dJ6_stringSize_0f7a4_9 : decode cJ6_stringSize_0f7a4 9 = .ok (.ineg, 1) := by decide +kernel
theorem dJ6_stringSize_0f7a4_10 : decode cJ6_stringSize_0f7a4 10 = .ok (.istore_n 0, 1) := by decide +kernel
theorem dJ6_stringSize_0f7a4_11 : decode cJ6_stringSize_0f7a4 11 = .ok (.bipush (-10), 2) := by decide +kernel
theorem dJ6_stringSize_0f7a4_13 : decode cJ6_stringSize_0f7a4 13 = .ok (.istore_n 2, 1) := by decide +kernel
theorem dJ6_stringSize_0f7a4_14 : decode cJ6_stringSize_0f7a4 14 = .ok (.iconst 1, 1) := by decide +kernel
theorem dJ6_stringSize_0f7a4_15 : decode cJ6_stringSize_0f7a4 15 = .ok (.istore_n 3, 1) := by decide +kernel
theorem dJ6_stringSize_0f7a4_16 : decode cJ6_stringSize_0f7a4 16 = .ok (.iload_n 3, 1) := by decide +kernel
theorem dJ6_stringSize_0f7a4_17 : decode cJ6_stringSize_0f7a4 17 = .ok (.bipush 10, 2) := by decide +kernel
theorem dJ6_stringSize_0f7a4_19 : decode cJ6_stringSize_0f7a4 19 = .ok (.if_icmp .ge 23, 3) := by decide +kernel
theorem dJ6_stringSize_0f7a4_22 : decode cJ6_stringSize_0f7a4 22 = .ok (.iload_n 0, 1) := by decide +kernel
theorem dJ6_stringSize_0f7a4_23 : decode cJ6_stringSize_0f7a4 23 = .ok (.iload_n 2, 1) := by decide +kernel
theorem dJ6_stringSize_0f7a4_24 : decode cJ6_stringSize_0f7a4 24 = .ok (.if_icmp .le 7, 3) := by decide +kernel
theorem dJ6_stringSize_0f7a4_27 : decode cJ6_stringSize_0f7a4 27 = .ok (.iload_n 3, 1) := by decide +kernel
theorem dJ6_stringSize_0f7a4_28 : decode cJ6_stringSize_0f7a4 28 = .ok (.iload_n 1, 1) := by decide +kernel
theorem dJ6_stringSize_0f7a4_29 : decode cJ6_stringSize_0f7a4 29 = .ok (.iadd, 1) := by decide +kernel
theorem dJ6_stringSize_0f7a4_30 : decode cJ6_stringSize_0f7a4 30 = .ok (.ireturn, 1) := by decide +kernel
theorem dJ6_stringSize_0f7a4_31 : decode cJ6_stringSize_0f7a4 31 = .ok (.bipush 10, 2) := by decide +kernel
theorem dJ6_stringSize_0f7a4_33 : decode cJ6_stringSize_0f7a4 33 = .ok (.iload_n 2, 1) := by decide +kernel
theorem dJ6_stringSize_0f7a4_34 : decode cJ6_stringSize_0f7a4 34 = .ok (.imul, 1) := by decide +kernel
theorem dJ6_stringSize_0f7a4_35 : decode cJ6_stringSize_0f7a4 35 = .ok (.istore_n 2, 1) := by decide +kernel
theorem dJ6_stringSize_0f7a4_36 : decode cJ6_stringSize_0f7a4 36 = .ok (.iinc 3 1, 3) := by decide +kernel
theorem dJ6_stringSize_0f7a4_39 : decode cJ6_stringSize_0f7a4 39 = .ok (.goto (-23), 3) := by decide +kernel
theorem dJ6_stringSize_0f7a4_42 : decode cJ6_stringSize_0f7a4 42 = .ok (.bipush 10, 2) := by decide +kernel
theorem dJ6_stringSize_0f7a4_44 : decode cJ6_stringSize_0f7a4 44 = .ok (.iload_n 1, 1) := by decide +kernel
theorem dJ6_stringSize_0f7a4_45 : decode cJ6_stringSize_0f7a4 45 = .ok (.iadd, 1) := by decide +kernel
theorem dJ6_stringSize_0f7a4_46 : decode cJ6_stringSize_0f7a4 46 = .ok (.ireturn, 1) := by decide +kernel
theorem dJ9_max_7cf53_0 : decode cJ9_max_7cf53 0 = .ok (.iload_n 0, 1) := by decide +kernel
theorem dJ9_max_7cf53_1 : decode cJ9_max_7cf53 1 = .ok (.iload_n 1, 1) := by decide +kernel
theorem dJ9_max_7cf53_2 : decode cJ9_max_7cf53 2 = .ok (.if_icmp .lt 7, 3) := by decide +kernel
theorem dJ9_max_7cf53_5 : decode cJ9_max_7cf53 5 = .ok (.iload_n 0, 1) := by decide +kernel
theorem dJ9_max_7cf53_6 : decode cJ9_max_7cf53 6 = .ok (.goto 4, 3) := by decide +kernel
theorem dJ9_max_7cf53_9 : decode cJ9_max_7cf53 9 = .ok (.iload_n 1, 1) := by decide +kernel
theorem dJ9_max_7cf53_10 : decode cJ9_max_7cf53 10 = .ok (.ireturn, 1) := by decide +kernel
theorem dJ9_min_7cf53_0 : decode cJ9_min_7cf53 0 = .ok (.iload_n 0, 1) := by decide +kernel
theorem dJ9_min_7cf53_1 : decode cJ9_min_7cf53 1 = .ok (.iload_n 1, 1) := by decide +kernel
theorem dJ9_min_7cf53_2 : decode cJ9_min_7cf53 2 = .ok (.if_icmp .gt 7, 3) := by decide +kernel
theorem dJ9_min_7cf53_5 : decode cJ9_min_7cf53 5 = .ok (.iload_n 0, 1) := by decide +kernel
theorem dJ9_min_7cf53_6 : decode cJ9_min_7cf53 6 = .ok (.goto 4, 3) := by decide +kernel
theorem dJ9_min_7cf53_9 : decode cJ9_min_7cf53 9 = .ok (.iload_n 1, 1) := by decide +kernel
theorem dJ9_min_7cf53_10 : decode cJ9_min_7cf53 10 = .ok (.ireturn, 1) := by decide +kernel
theorem dJ0_init_81219_0 : decode cJ0_init_81219 0 = .ok (.aload_n 0, 1) := by decide +kernel
theorem dJ0_init_81219_1 : decode cJ0_init_81219 1 = .ok (.aload_n 1, 1) := by decide +kernel
theorem dJ0_init_81219_2 : decode cJ0_init_81219 2 = .ok (.aconst_null, 1) := by decide +kernel
theorem dJ0_init_81219_3 : decode cJ0_init_81219 3 = .ok (.invokespecial 489, 3) := by decide +kernel
theorem dJ0_init_81219_6 : decode cJ0_init_81219 6 = .ok (.return_, 1) := by decide +kernel
theorem dJ0_length_8abf5_0 : decode cJ0_length_8abf5 0 = .ok (.aload_n 0, 1) := by decide +kernel
theorem dJ0_length_8abf5_1 : decode cJ0_length_8abf5 1 = .ok (.getfield 9, 3) := by decide +kernel
theorem dJ0_length_8abf5_4 : decode cJ0_length_8abf5 4 = .ok (.arraylength, 1) := by decide +kernel
theorem dJ0_length_8abf5_5 : decode cJ0_length_8abf5 5 = .ok (.aload_n 0, 1) := by decide +kernel
theorem dJ0_length_8abf5_6 : decode cJ0_length_8abf5 6 = .ok (.invokevirtual 335, 3) := by decide +kernel
theorem dJ0_length_8abf5_9 : decode cJ0_length_8abf5 9 = .ok (.ishr, 1) := by decide +kernel
theorem dJ0_length_8abf5_10 : decode cJ0_length_8abf5 10 = .ok (.ireturn, 1) := by decide +kernel
theorem dJ0_getBytes_840e7_0 : decode cJ0_getBytes_840e7 0 = .ok (.aload_n 0, 1) := by decide +kernel
theorem dJ0_getBytes_840e7_1 : decode cJ0_getBytes_840e7 1 = .ok (.invokevirtual 335, 3) := by decide +kernel
theorem dJ0_getBytes_840e7_4 : decode cJ0_getBytes_840e7 4 = .ok (.iload_n 3, 1) := by decide +kernel
theorem dJ0_getBytes_840e7_5 : decode cJ0_getBytes_840e7 5 = .ok (.if_icmp .ne 23, 3) := by decide +kernel
theorem dJ0_getBytes_840e7_8 : decode cJ0_getBytes_840e7 8 = .ok (.aload_n 0, 1) := by decide +kernel
theorem dJ0_getBytes_840e7_9 : decode cJ0_getBytes_840e7 9 = .ok (.getfield 9, 3) := by decide +kernel
theorem dJ0_getBytes_840e7_12 : decode cJ0_getBytes_840e7 12 = .ok (.iconst 0, 1) := by decide +kernel
theorem dJ0_getBytes_840e7_13 : decode cJ0_getBytes_840e7 13 = .ok (.aload_n 1, 1) := by decide +kernel
theorem dJ0_getBytes_840e7_14 : decode cJ0_getBytes_840e7 14 = .ok (.iload_n 2, 1) := by decide +kernel
theorem dJ0_getBytes_840e7_15 : decode cJ0_getBytes_840e7 15 = .ok (.iload_n 3, 1) := by decide +kernel
theorem dJ0_getBytes_840e7_16 : decode cJ0_getBytes_840e7 16 = .ok (.ishl, 1) := by decide +kernel
theorem dJ0_getBytes_840e7_17 : decode cJ0_getBytes_840e7 17 = .ok (.aload_n 0, 1) := by decide +kernel
theorem dJ0_getBytes_840e7_18 : decode cJ0_getBytes_840e7 18 = .ok (.getfield 9, 3) := by decide +kernel
theorem dJ0_getBytes_840e7_21 : decode cJ0_getBytes_840e7 21 = .ok (.arraylength, 1) := by decide +kernel
theorem dJ0_getBytes_840e7_22 : decode cJ0_getBytes_840e7 22 = .ok (.invokestatic 212, 3) := by decide +kernel
theorem dJ0_getBytes_840e7_25 : decode cJ0_getBytes_840e7 25 = .ok (.goto 18, 3) := by decide +kernel
theorem dJ0_getBytes_840e7_28 : decode cJ0_getBytes_840e7 28 = .ok (.aload_n 0, 1) := by decide +kernel
theorem dJ0_getBytes_840e7_29 : decode cJ0_getBytes_840e7 29 = .ok (.getfield 9, 3) := by decide +kernel
theorem dJ0_getBytes_840e7_32 : decode cJ0_getBytes_840e7 32 = .ok (.iconst 0, 1) := by decide +kernel
theorem dJ0_getBytes_840e7_33 : decode cJ0_getBytes_840e7 33 = .ok (.aload_n 1, 1) := by decide +kernel
theorem dJ0_getBytes_840e7_34 : decode cJ0_getBytes_840e7 34 = .ok (.iload_n 2, 1) := by decide +kernel
theorem dJ0_getBytes_840e7_35 : decode cJ0_getBytes_840e7 35 = .ok (.aload_n 0, 1) := by decide +kernel
theorem dJ0_getBytes_840e7_36 : decode cJ0_getBytes_840e7 36 = .ok (.getfield 9, 3) := by decide +kernel
theorem dJ0_getBytes_840e7_39 : decode cJ0_getBytes_840e7 39 = .ok (.arraylength, 1) := by decide +kernel
theorem dJ0_getBytes_840e7_40 : decode cJ0_getBytes_840e7 40 = .ok (.invokestatic 106, 3) := by decide +kernel
theorem dJ0_getBytes_840e7_43 : decode cJ0_getBytes_840e7 43 = .ok (.return_, 1) := by decide +kernel
theorem dJ0_init_db425_0 : decode cJ0_init_db425 0 = .ok (.aload_n 0, 1) := by decide +kernel
theorem dJ0_init_db425_1 : decode cJ0_init_db425 1 = .ok (.invokespecial 1, 3) := by decide +kernel
theorem dJ0_init_db425_4 : decode cJ0_init_db425 4 = .ok (.aload_n 1, 1) := by decide +kernel
theorem dJ0_init_db425_5 : decode cJ0_init_db425 5 = .ok (.invokevirtual 552, 3) := by decide +kernel
theorem dJ0_init_db425_8 : decode cJ0_init_db425 8 = .ok (.astore_n 3, 1) := by decide +kernel
theorem dJ0_init_db425_9 : decode cJ0_init_db425 9 = .ok (.aload_n 1, 1) := by decide +kernel
theorem dJ0_init_db425_10 : decode cJ0_init_db425 10 = .ok (.invokevirtual 549, 3) := by decide +kernel
theorem dJ0_init_db425_13 : decode cJ0_init_db425 13 = .ok (.istore 4, 2) := by decide +kernel
theorem dJ0_init_db425_15 : decode cJ0_init_db425 15 = .ok (.aload_n 1, 1) := by decide +kernel
theorem dJ0_init_db425_16 : decode cJ0_init_db425 16 = .ok (.invokevirtual 1047, 3) := by decide +kernel
theorem dJ0_init_db425_19 : decode cJ0_init_db425 19 = .ok (.ifCond .eq 22, 3) := by decide +kernel
theorem dJ0_init_db425_22 : decode cJ0_init_db425 22 = .ok (.aload_n 0, 1) := by decide +kernel
theorem dJ0_init_db425_23 : decode cJ0_init_db425 23 = .ok (.iconst 0, 1) := by decide +kernel
theorem dJ0_init_db425_24 : decode cJ0_init_db425 24 = .ok (.putfield 15, 3) := by decide +kernel
theorem dJ0_init_db425_27 : decode cJ0_init_db425 27 = .ok (.aload_n 0, 1) := by decide +kernel
theorem dJ0_init_db425_28 : decode cJ0_init_db425 28 = .ok (.aload_n 3, 1) := by decide +kernel
theorem dJ0_init_db425_29 : decode cJ0_init_db425 29 = .ok (.iconst 0, 1) := by decide +kernel
theorem dJ0_init_db425_30 : decode cJ0_init_db425 30 = .ok (.iload 4, 2) := by decide +kernel
theorem dJ0_init_db425_32 : decode cJ0_init_db425 32 = .ok (.invokestatic 54, 3) := by decide +kernel
theorem dJ0_init_db425_35 : decode cJ0_init_db425 35 = .ok (.putfield 9, 3) := by decide +kernel
theorem dJ0_init_db425_38 : decode cJ0_init_db425 38 = .ok (.goto 59, 3) := by decide +kernel
theorem dJ0_init_db425_41 : decode cJ0_init_db425 41 = .ok (.getstatic 38, 3) := by decide +kernel
theorem dJ0_init_db425_44 : decode cJ0_init_db425 44 = .ok (.ifCond .eq 35, 3) := by decide +kernel
theorem dJ0_init_db425_47 : decode cJ0_init_db425 47 = .ok (.aload_n 1, 1) := by decide +kernel
theorem dJ0_init_db425_48 : decode cJ0_init_db425 48 = .ok (.getfield 1048, 3) := by decide +kernel
theorem dJ0_init_db425_51 : decode cJ0_init_db425 51 = .ok (.ifCond .eq 28, 3) := by decide +kernel
theorem dJ0_init_db425_54 : decode cJ0_init_db425 54 = .ok (.aload_n 0, 1) := by decide +kernel
theorem dJ0_init_db425_55 : decode cJ0_init_db425 55 = .ok (.aload_n 3, 1) := by decide +kernel
theorem dJ0_init_db425_56 : decode cJ0_init_db425 56 = .ok (.iconst 0, 1) := by decide +kernel
theorem dJ0_init_db425_57 : decode cJ0_init_db425 57 = .ok (.iload 4, 2) := by decide +kernel
theorem dJ0_init_db425_59 : decode cJ0_init_db425 59 = .ok (.invokestatic 1051, 3) := by decide +kernel
theorem dJ0_init_db425_62 : decode cJ0_init_db425 62 = .ok (.putfield 9, 3) := by decide +kernel
theorem dJ0_init_db425_65 : decode cJ0_init_db425 65 = .ok (.aload_n 0, 1) := by decide +kernel
theorem dJ0_init_db425_66 : decode cJ0_init_db425 66 = .ok (.aload_n 0, 1) := by decide +kernel
theorem dJ0_init_db425_67 : decode cJ0_init_db425 67 = .ok (.getfield 9, 3) := by decide +kernel
theorem dJ0_init_db425_70 : decode cJ0_init_db425 70 = .ok (.iload 4, 2) := by decide +kernel
theorem dJ0_init_db425_72 : decode cJ0_init_db425 72 = .ok (.invokestatic 47, 3) := by decide +kernel
theorem dJ0_init_db425_75 : decode cJ0_init_db425 75 = .ok (.putfield 15, 3) := by decide +kernel
theorem dJ0_init_db425_78 : decode cJ0_init_db425 78 = .ok (.return_, 1) := by decide +kernel
theorem dJ0_init_db425_79 : decode cJ0_init_db425 79 = .ok (.aload_n 0, 1) := by decide +kernel
theorem dJ0_init_db425_80 : decode cJ0_init_db425 80 = .ok (.iconst 1, 1) := by decide +kernel
theorem dJ0_init_db425_81 : decode cJ0_init_db425 81 = .ok (.putfield 15, 3) := by decide +kernel
theorem dJ0_init_db425_84 : decode cJ0_init_db425 84 = .ok (.aload_n 0, 1) := by decide +kernel
theorem dJ0_init_db425_85 : decode cJ0_init_db425 85 = .ok (.aload_n 3, 1) := by decide +kernel
theorem dJ0_init_db425_86 : decode cJ0_init_db425 86 = .ok (.iconst 0, 1) := by decide +kernel
theorem dJ0_init_db425_87 : decode cJ0_init_db425 87 = .ok (.iload 4, 2) := by decide +kernel
theorem dJ0_init_db425_89 : decode cJ0_init_db425 89 = .ok (.iconst 1, 1) := by decide +kernel
theorem dJ0_init_db425_90 : decode cJ0_init_db425 90 = .ok (.ishl, 1) := by decide +kernel
theorem dJ0_init_db425_91 : decode cJ0_init_db425 91 = .ok (.invokestatic 54, 3) := by decide +kernel
theorem dJ0_init_db425_94 : decode cJ0_init_db425 94 = .ok (.putfield 9, 3) := by decide +kernel
theorem dJ0_init_db425_97 : decode cJ0_init_db425 97 = .ok (.return_, 1) := by decide +kernel
theorem dJ0_coder_7d493_0 : decode cJ0_coder_7d493 0 = .ok (.getstatic 38, 3) := by decide +kernel
theorem dJ0_coder_7d493_3 : decode cJ0_coder_7d493 3 = .ok (.ifCond .eq 10, 3) := by decide +kernel
theorem dJ0_coder_7d493_6 : decode cJ0_coder_7d493 6 = .ok (.aload_n 0, 1) := by decide +kernel
theorem dJ0_coder_7d493_7 : decode cJ0_coder_7d493 7 = .ok (.getfield 15, 3) := by decide +kernel
theorem dJ0_coder_7d493_10 : decode cJ0_coder_7d493 10 = .ok (.goto 4, 3) := by decide +kernel
theorem dJ0_coder_7d493_13 : decode cJ0_coder_7d493 13 = .ok (.iconst 1, 1) := by decide +kernel
theorem dJ0_coder_7d493_14 : decode cJ0_coder_7d493 14 = .ok (.ireturn, 1) := by decide +kernel
theorem dJ0_checkIndex_df160_0 : decode cJ0_checkIndex_df160 0 = .ok (.iload_n 0, 1) := by decide +kernel
theorem dJ0_checkIndex_df160_1 : decode cJ0_checkIndex_df160 1 = .ok (.iload_n 1, 1) := by decide +kernel
theorem dJ0_checkIndex_df160_2 : decode cJ0_checkIndex_df160 2 = .ok (.getstatic 1053, 3) := by decide +kernel
theorem dJ0_checkIndex_df160_5 : decode cJ0_checkIndex_df160 5 = .ok (.invokestatic 1059, 3) := by decide +kernel
theorem dJ0_checkIndex_df160_8 : decode cJ0_checkIndex_df160 8 = .ok (.pop, 1) := by decide +kernel
theorem dJ0_checkIndex_df160_9 : decode cJ0_checkIndex_df160 9 = .ok (.return_, 1) := by decide +kernel
theorem dJ0_checkBoundsOffCount_cabcc_0 : decode cJ0_checkBoundsOffCount_cabcc 0 = .ok (.iload_n 0, 1) := by decide +kernel
theorem dJ0_checkBoundsOffCount_cabcc_1 : decode cJ0_checkBoundsOffCount_cabcc 1 = .ok (.iload_n 1, 1) := by decide +kernel
theorem dJ0_checkBoundsOffCount_cabcc_2 : decode cJ0_checkBoundsOffCount_cabcc 2 = .ok (.iload_n 2, 1) := by decide +kernel
theorem dJ0_checkBoundsOffCount_cabcc_3 : decode cJ0_checkBoundsOffCount_cabcc 3 = .ok (.getstatic 1053, 3) := by decide +kernel
theorem dJ0_checkBoundsOffCount_cabcc_6 : decode cJ0_checkBoundsOffCount_cabcc 6 = .ok (.invokestatic 1065, 3) := by decide +kernel
theorem dJ0_checkBoundsOffCount_cabcc_9 : decode cJ0_checkBoundsOffCount_cabcc 9 = .ok (.ireturn, 1) := by decide +kernel
theorem dJ0_checkBoundsBeginEnd_23922_0 : decode cJ0_checkBoundsBeginEnd_23922 0 = .ok (.iload_n 0, 1) := by decide +kernel
theorem dJ0_checkBoundsBeginEnd_23922_1 : decode cJ0_checkBoundsBeginEnd_23922 1 = .ok (.iload_n 1, 1) := by decide +kernel
theorem dJ0_checkBoundsBeginEnd_23922_2 : decode cJ0_checkBoundsBeginEnd_23922 2 = .ok (.iload_n 2, 1) := by decide +kernel
theorem dJ0_checkBoundsBeginEnd_23922_3 : decode cJ0_checkBoundsBeginEnd_23922 3 = .ok (.getstatic 1053, 3) := by decide +kernel
theorem dJ0_checkBoundsBeginEnd_23922_6 : decode cJ0_checkBoundsBeginEnd_23922 6 = .ok (.invokestatic 1062, 3) := by decide +kernel
theorem dJ0_checkBoundsBeginEnd_23922_9 : decode cJ0_checkBoundsBeginEnd_23922 9 = .ok (.pop, 1) := by decide +kernel
theorem dJ0_checkBoundsBeginEnd_23922_10 : decode cJ0_checkBoundsBeginEnd_23922 10 = .ok (.return_, 1) := by decide +kernel
theorem dJ4_init_da8c8_0 : decode cJ4_init_da8c8 0 = .ok (.aload_n 0, 1) := by decide +kernel
theorem dJ4_init_da8c8_1 : decode cJ4_init_da8c8 1 = .ok (.bipush 16, 2) := by decide +kernel
theorem dJ4_init_da8c8_3 : decode cJ4_init_da8c8 3 = .ok (.invokespecial 1, 3) := by decide +kernel
theorem dJ4_init_da8c8_6 : decode cJ4_init_da8c8 6 = .ok (.return_, 1) := by decide +kernel
theorem dJ4_append_15ec4_0 : decode cJ4_append_15ec4 0 = .ok (.aload_n 0, 1) := by decide +kernel
theorem dJ4_append_15ec4_1 : decode cJ4_append_15ec4 1 = .ok (.aload_n 1, 1) := by decide +kernel
theorem dJ4_append_15ec4_2 : decode cJ4_append_15ec4 2 = .ok (.invokespecial 29, 3) := by decide +kernel
theorem dJ4_append_15ec4_5 : decode cJ4_append_15ec4 5 = .ok (.pop, 1) := by decide +kernel
theorem dJ4_append_15ec4_6 : decode cJ4_append_15ec4 6 = .ok (.aload_n 0, 1) := by decide +kernel
theorem dJ4_append_15ec4_7 : decode cJ4_append_15ec4 7 = .ok (.areturn, 1) := by decide +kernel
theorem dJ4_append_cf468_0 : decode cJ4_append_cf468 0 = .ok (.aload_n 0, 1) := by decide +kernel
theorem dJ4_append_cf468_1 : decode cJ4_append_cf468 1 = .ok (.iload_n 1, 1) := by decide +kernel
theorem dJ4_append_cf468_2 : decode cJ4_append_cf468 2 = .ok (.invokespecial 50, 3) := by decide +kernel
theorem dJ4_append_cf468_5 : decode cJ4_append_cf468 5 = .ok (.pop, 1) := by decide +kernel
theorem dJ4_append_cf468_6 : decode cJ4_append_cf468 6 = .ok (.aload_n 0, 1) := by decide +kernel
theorem dJ4_append_cf468_7 : decode cJ4_append_cf468 7 = .ok (.areturn, 1) := by decide +kernel
theorem dJ4_append_bf812_0 : decode cJ4_append_bf812 0 = .ok (.aload_n 0, 1) := by decide +kernel
theorem dJ4_append_bf812_1 : decode cJ4_append_bf812 1 = .ok (.iload_n 1, 1) := by decide +kernel
theorem dJ4_append_bf812_2 : decode cJ4_append_bf812 2 = .ok (.invokespecial 53, 3) := by decide +kernel
theorem dJ4_append_bf812_5 : decode cJ4_append_bf812 5 = .ok (.pop, 1) := by decide +kernel
theorem dJ4_append_bf812_6 : decode cJ4_append_bf812 6 = .ok (.aload_n 0, 1) := by decide +kernel
theorem dJ4_append_bf812_7 : decode cJ4_append_bf812 7 = .ok (.areturn, 1) := by decide +kernel
theorem dJ4_toString_0e30d_0 : decode cJ4_toString_0e30d 0 = .ok (.new 18, 3) := by decide +kernel
theorem dJ4_toString_0e30d_3 : decode cJ4_toString_0e30d 3 = .ok (.dup, 1) := by decide +kernel
theorem dJ4_toString_0e30d_4 : decode cJ4_toString_0e30d 4 = .ok (.aload_n 0, 1) := by decide +kernel
theorem dJ4_toString_0e30d_5 : decode cJ4_toString_0e30d 5 = .ok (.invokespecial 137, 3) := by decide +kernel
theorem dJ4_toString_0e30d_8 : decode cJ4_toString_0e30d 8 = .ok (.areturn, 1) := by decide +kernel
theorem dJ4_charAt_5068e_0 : decode cJ4_charAt_5068e 0 = .ok (.aload_n 0, 1) := by decide +kernel
theorem dJ4_charAt_5068e_1 : decode cJ4_charAt_5068e 1 = .ok (.iload_n 1, 1) := by decide +kernel
theorem dJ4_charAt_5068e_2 : decode cJ4_charAt_5068e 2 = .ok (.invokespecial 329, 3) := by decide +kernel
theorem dJ4_charAt_5068e_5 : decode cJ4_charAt_5068e 5 = .ok (.ireturn, 1) := by decide +kernel
theorem dJ4_setLength_d00df_0 : decode cJ4_setLength_d00df 0 = .ok (.aload_n 0, 1) := by decide +kernel
theorem dJ4_setLength_d00df_1 : decode cJ4_setLength_d00df 1 = .ok (.iload_n 1, 1) := by decide +kernel
theorem dJ4_setLength_d00df_2 : decode cJ4_setLength_d00df 2 = .ok (.invokespecial 333, 3) := by decide +kernel
theorem dJ4_setLength_d00df_5 : decode cJ4_setLength_d00df 5 = .ok (.return_, 1) := by decide +kernel
theorem dJ4_length_8abf5_0 : decode cJ4_length_8abf5 0 = .ok (.aload_n 0, 1) := by decide +kernel
theorem dJ4_length_8abf5_1 : decode cJ4_length_8abf5 1 = .ok (.invokespecial 343, 3) := by decide +kernel
theorem dJ4_length_8abf5_4 : decode cJ4_length_8abf5 4 = .ok (.ireturn, 1) := by decide +kernel
theorem dJx7c733_init_d00df_0 : decode cJx7c733_init_d00df 0 = .ok (.aload_n 0, 1) := by decide +kernel
theorem dJx7c733_init_d00df_1 : decode cJx7c733_init_d00df 1 = .ok (.new 10, 3) := by decide +kernel
theorem dJx7c733_init_d00df_4 : decode cJx7c733_init_d00df 4 = .ok (.dup, 1) := by decide +kernel
theorem dJx7c733_init_d00df_5 : decode cJx7c733_init_d00df 5 = .ok (.invokespecial 12, 3) := by decide +kernel
theorem dJx7c733_init_d00df_8 : decode cJx7c733_init_d00df 8 = .ok (.ldc 13, 2) := by decide +kernel
theorem dJx7c733_init_d00df_10 : decode cJx7c733_init_d00df 10 = .ok (.invokevirtual 15, 3) := by decide +kernel
theorem dJx7c733_init_d00df_13 : decode cJx7c733_init_d00df 13 = .ok (.iload_n 1, 1) := by decide +kernel
theorem dJx7c733_init_d00df_14 : decode cJx7c733_init_d00df 14 = .ok (.invokevirtual 19, 3) := by decide +kernel
theorem dJx7c733_init_d00df_17 : decode cJx7c733_init_d00df 17 = .ok (.invokevirtual 22, 3) := by decide +kernel
theorem dJx7c733_init_d00df_20 : decode cJx7c733_init_d00df 20 = .ok (.invokespecial 7, 3) := by decide +kernel
theorem dJx7c733_init_d00df_23 : decode cJx7c733_init_d00df 23 = .ok (.return_, 1) := by decide +kernel
theorem dJ1_canEncode_fc78d_0 : decode cJ1_canEncode_fc78d 0 = .ok (.iload_n 0, 1) := by decide +kernel
theorem dJ1_canEncode_fc78d_1 : decode cJ1_canEncode_fc78d 1 = .ok (.sipush 255, 3) := by decide +kernel
theorem dJ1_canEncode_fc78d_4 : decode cJ1_canEncode_fc78d 4 = .ok (.if_icmp .gt 7, 3) := by decide +kernel
theorem dJ1_canEncode_fc78d_7 : decode cJ1_canEncode_fc78d 7 = .ok (.iconst 1, 1) := by decide +kernel
theorem dJ1_canEncode_fc78d_8 : decode cJ1_canEncode_fc78d 8 = .ok (.goto 4, 3) := by decide +kernel
theorem dJ1_canEncode_fc78d_11 : decode cJ1_canEncode_fc78d 11 = .ok (.iconst 0, 1) := by decide +kernel
theorem dJ1_canEncode_fc78d_12 : decode cJ1_canEncode_fc78d 12 = .ok (.ireturn, 1) := by decide +kernel
theorem dJ1_fillNull_b72d1_0 : decode cJ1_fillNull_b72d1 0 = .ok (.aload_n 0, 1) := by decide +kernel
theorem dJ1_fillNull_b72d1_1 : decode cJ1_fillNull_b72d1 1 = .ok (.iload_n 1, 1) := by decide +kernel
theorem dJ1_fillNull_b72d1_2 : decode cJ1_fillNull_b72d1 2 = .ok (.iload_n 2, 1) := by decide +kernel
theorem dJ1_fillNull_b72d1_3 : decode cJ1_fillNull_b72d1 3 = .ok (.iconst 0, 1) := by decide +kernel
theorem dJ1_fillNull_b72d1_4 : decode cJ1_fillNull_b72d1 4 = .ok (.invokestatic 236, 3) := by decide +kernel
theorem dJ1_fillNull_b72d1_7 : decode cJ1_fillNull_b72d1 7 = .ok (.return_, 1) := by decide +kernel
theorem dJ1_inflate_0e8fd_0 : decode cJ1_inflate_0e8fd 0 = .ok (.aload_n 0, 1) := by decide +kernel
theorem dJ1_inflate_0e8fd_1 : decode cJ1_inflate_0e8fd 1 = .ok (.iload_n 1, 1) := by decide +kernel
theorem dJ1_inflate_0e8fd_2 : decode cJ1_inflate_0e8fd 2 = .ok (.aload_n 2, 1) := by decide +kernel
theorem dJ1_inflate_0e8fd_3 : decode cJ1_inflate_0e8fd 3 = .ok (.iload_n 3, 1) := by decide +kernel
theorem dJ1_inflate_0e8fd_4 : decode cJ1_inflate_0e8fd 4 = .ok (.iload 4, 2) := by decide +kernel
theorem dJ1_inflate_0e8fd_6 : decode cJ1_inflate_0e8fd 6 = .ok (.invokestatic 240, 3) := by decide +kernel
theorem dJ1_inflate_0e8fd_9 : decode cJ1_inflate_0e8fd 9 = .ok (.return_, 1) := by decide +kernel
theorem dJ2_newBytesFor_77867_0 : decode cJ2_newBytesFor_77867 0 = .ok (.iload_n 0, 1) := by decide +kernel
theorem dJ2_newBytesFor_77867_1 : decode cJ2_newBytesFor_77867 1 = .ok (.invokestatic 11, 3) := by decide +kernel
theorem dJ2_newBytesFor_77867_4 : decode cJ2_newBytesFor_77867 4 = .ok (.newarray .byte, 2) := by decide +kernel
theorem dJ2_newBytesFor_77867_6 : decode cJ2_newBytesFor_77867 6 = .ok (.areturn, 1) := by decide +kernel
theorem dJ2_newBytesLength_0f7a4_0 : decode cJ2_newBytesLength_0f7a4 0 = .ok (.iload_n 0, 1) := by decide +kernel
theorem dJ2_newBytesLength_0f7a4_1 : decode cJ2_newBytesLength_0f7a4 1 = .ok (.ifCond .ge 11, 3) := by decide +kernel
theorem dJ2_newBytesLength_0f7a4_4 : decode cJ2_newBytesLength_0f7a4 4 = .ok (.new 17, 3) := by decide +kernel
theorem dJ2_newBytesLength_0f7a4_7 : decode cJ2_newBytesLength_0f7a4 7 = .ok (.dup, 1) := by decide +kernel
theorem dJ2_newBytesLength_0f7a4_8 : decode cJ2_newBytesLength_0f7a4 8 = .ok (.invokespecial 19, 3) := by decide +kernel
theorem dJ2_newBytesLength_0f7a4_11 : decode cJ2_newBytesLength_0f7a4 11 = .ok (.athrow, 1) := by decide +kernel
theorem dJ2_newBytesLength_0f7a4_12 : decode cJ2_newBytesLength_0f7a4 12 = .ok (.iload_n 0, 1) := by decide +kernel
theorem dJ2_newBytesLength_0f7a4_13 : decode cJ2_newBytesLength_0f7a4 13 = .ok (.ldc 20, 2) := by decide +kernel
theorem dJ2_newBytesLength_0f7a4_15 : decode cJ2_newBytesLength_0f7a4 15 = .ok (.if_icmp .lt 40, 3) := by decide +kernel
theorem dJ2_newBytesLength_0f7a4_18 : decode cJ2_newBytesLength_0f7a4 18 = .ok (.new 21, 3) := by decide +kernel
theorem dJ2_newBytesLength_0f7a4_21 : decode cJ2_newBytesLength_0f7a4 21 = .ok (.dup, 1) := by decide +kernel
theorem dJ2_newBytesLength_0f7a4_22 : decode cJ2_newBytesLength_0f7a4 22 = .ok (.new 23, 3) := by decide +kernel
theorem dJ2_newBytesLength_0f7a4_25 : decode cJ2_newBytesLength_0f7a4 25 = .ok (.dup, 1) := by decide +kernel
theorem dJ2_newBytesLength_0f7a4_26 : decode cJ2_newBytesLength_0f7a4 26 = .ok (.invokespecial 25, 3) := by decide +kernel
theorem dJ2_newBytesLength_0f7a4_29 : decode cJ2_newBytesLength_0f7a4 29 = .ok (.ldc 26, 2) := by decide +kernel
theorem dJ2_newBytesLength_0f7a4_31 : decode cJ2_newBytesLength_0f7a4 31 = .ok (.invokevirtual 28, 3) := by decide +kernel
theorem dJ2_newBytesLength_0f7a4_34 : decode cJ2_newBytesLength_0f7a4 34 = .ok (.iload_n 0, 1) := by decide +kernel
theorem dJ2_newBytesLength_0f7a4_35 : decode cJ2_newBytesLength_0f7a4 35 = .ok (.invokevirtual 32, 3) := by decide +kernel
theorem dJ2_newBytesLength_0f7a4_38 : decode cJ2_newBytesLength_0f7a4 38 = .ok (.ldc 35, 2) := by decide +kernel
theorem dJ2_newBytesLength_0f7a4_40 : decode cJ2_newBytesLength_0f7a4 40 = .ok (.invokevirtual 28, 3) := by decide +kernel
theorem dJ2_newBytesLength_0f7a4_43 : decode cJ2_newBytesLength_0f7a4 43 = .ok (.ldc 20, 2) := by decide +kernel
theorem dJ2_newBytesLength_0f7a4_45 : decode cJ2_newBytesLength_0f7a4 45 = .ok (.invokevirtual 32, 3) := by decide +kernel
theorem dJ2_newBytesLength_0f7a4_48 : decode cJ2_newBytesLength_0f7a4 48 = .ok (.invokevirtual 37, 3) := by decide +kernel
theorem dJ2_newBytesLength_0f7a4_51 : decode cJ2_newBytesLength_0f7a4 51 = .ok (.invokespecial 41, 3) := by decide +kernel
theorem dJ2_newBytesLength_0f7a4_54 : decode cJ2_newBytesLength_0f7a4 54 = .ok (.athrow, 1) := by decide +kernel
theorem dJ2_newBytesLength_0f7a4_55 : decode cJ2_newBytesLength_0f7a4 55 = .ok (.iload_n 0, 1) := by decide +kernel
theorem dJ2_newBytesLength_0f7a4_56 : decode cJ2_newBytesLength_0f7a4 56 = .ok (.iconst 1, 1) := by decide +kernel
theorem dJ2_newBytesLength_0f7a4_57 : decode cJ2_newBytesLength_0f7a4 57 = .ok (.ishl, 1) := by decide +kernel
theorem dJ2_newBytesLength_0f7a4_58 : decode cJ2_newBytesLength_0f7a4 58 = .ok (.ireturn, 1) := by decide +kernel
theorem dJ2_putChar_b72d1_0 : decode cJ2_putChar_b72d1 0 = .ok (.getstatic 44, 3) := by decide +kernel
theorem dJ2_putChar_b72d1_3 : decode cJ2_putChar_b72d1 3 = .ok (.ifCond .ne 25, 3) := by decide +kernel
theorem dJ2_putChar_b72d1_6 : decode cJ2_putChar_b72d1 6 = .ok (.iload_n 1, 1) := by decide +kernel
theorem dJ2_putChar_b72d1_7 : decode cJ2_putChar_b72d1 7 = .ok (.ifCond .lt 11, 3) := by decide +kernel
theorem dJ2_putChar_b72d1_10 : decode cJ2_putChar_b72d1 10 = .ok (.iload_n 1, 1) := by decide +kernel
theorem dJ2_putChar_b72d1_11 : decode cJ2_putChar_b72d1 11 = .ok (.aload_n 0, 1) := by decide +kernel
theorem dJ2_putChar_b72d1_12 : decode cJ2_putChar_b72d1 12 = .ok (.invokestatic 48, 3) := by decide +kernel
theorem dJ2_putChar_b72d1_15 : decode cJ2_putChar_b72d1 15 = .ok (.if_icmp .lt 13, 3) := by decide +kernel
theorem dJ2_putChar_b72d1_18 : decode cJ2_putChar_b72d1 18 = .ok (.new 52, 3) := by decide +kernel
theorem dJ2_putChar_b72d1_21 : decode cJ2_putChar_b72d1 21 = .ok (.dup, 1) := by decide +kernel
theorem dJ2_putChar_b72d1_22 : decode cJ2_putChar_b72d1 22 = .ok (.ldc 54, 2) := by decide +kernel
theorem dJ2_putChar_b72d1_24 : decode cJ2_putChar_b72d1 24 = .ok (.invokespecial 56, 3) := by decide +kernel
theorem dJ2_putChar_b72d1_27 : decode cJ2_putChar_b72d1 27 = .ok (.athrow, 1) := by decide +kernel
theorem dJ2_putChar_b72d1_28 : decode cJ2_putChar_b72d1 28 = .ok (.iload_n 1, 1) := by decide +kernel
theorem dJ2_putChar_b72d1_29 : decode cJ2_putChar_b72d1 29 = .ok (.iconst 1, 1) := by decide +kernel
theorem dJ2_putChar_b72d1_30 : decode cJ2_putChar_b72d1 30 = .ok (.ishl, 1) := by decide +kernel
theorem dJ2_putChar_b72d1_31 : decode cJ2_putChar_b72d1 31 = .ok (.istore_n 1, 1) := by decide +kernel
theorem dJ2_putChar_b72d1_32 : decode cJ2_putChar_b72d1 32 = .ok (.aload_n 0, 1) := by decide +kernel
theorem dJ2_putChar_b72d1_33 : decode cJ2_putChar_b72d1 33 = .ok (.iload_n 1, 1) := by decide +kernel
theorem dJ2_putChar_b72d1_34 : decode cJ2_putChar_b72d1 34 = .ok (.iinc 1 1, 3) := by decide +kernel
theorem dJ2_putChar_b72d1_37 : decode cJ2_putChar_b72d1 37 = .ok (.iload_n 2, 1) := by decide +kernel
theorem dJ2_putChar_b72d1_38 : decode cJ2_putChar_b72d1 38 = .ok (.getstatic 59, 3) := by decide +kernel
theorem dJ2_putChar_b72d1_41 : decode cJ2_putChar_b72d1 41 = .ok (.ishr, 1) := by decide +kernel
theorem dJ2_putChar_b72d1_42 : decode cJ2_putChar_b72d1 42 = .ok (.i2b, 1) := by decide +kernel
theorem dJ2_putChar_b72d1_43 : decode cJ2_putChar_b72d1 43 = .ok (.bastore, 1) := by decide +kernel
theorem dJ2_putChar_b72d1_44 : decode cJ2_putChar_b72d1 44 = .ok (.aload_n 0, 1) := by decide +kernel
theorem dJ2_putChar_b72d1_45 : decode cJ2_putChar_b72d1 45 = .ok (.iload_n 1, 1) := by decide +kernel
theorem dJ2_putChar_b72d1_46 : decode cJ2_putChar_b72d1 46 = .ok (.iload_n 2, 1) := by decide +kernel
theorem dJ2_putChar_b72d1_47 : decode cJ2_putChar_b72d1 47 = .ok (.getstatic 63, 3) := by decide +kernel
theorem dJ2_putChar_b72d1_50 : decode cJ2_putChar_b72d1 50 = .ok (.ishr, 1) := by decide +kernel
theorem dJ2_putChar_b72d1_51 : decode cJ2_putChar_b72d1 51 = .ok (.i2b, 1) := by decide +kernel
theorem dJ2_putChar_b72d1_52 : decode cJ2_putChar_b72d1 52 = .ok (.bastore, 1) := by decide +kernel
theorem dJ2_putChar_b72d1_53 : decode cJ2_putChar_b72d1 53 = .ok (.return_, 1) := by decide +kernel
theorem dJ2_getChar_3b067_0 : decode cJ2_getChar_3b067 0 = .ok (.getstatic 44, 3) := by decide +kernel
theorem dJ2_getChar_3b067_3 : decode cJ2_getChar_3b067 3 = .ok (.ifCond .ne 25, 3) := by decide +kernel
theorem dJ2_getChar_3b067_6 : decode cJ2_getChar_3b067 6 = .ok (.iload_n 1, 1) := by decide +kernel
theorem dJ2_getChar_3b067_7 : decode cJ2_getChar_3b067 7 = .ok (.ifCond .lt 11, 3) := by decide +kernel
theorem dJ2_getChar_3b067_10 : decode cJ2_getChar_3b067 10 = .ok (.iload_n 1, 1) := by decide +kernel
theorem dJ2_getChar_3b067_11 : decode cJ2_getChar_3b067 11 = .ok (.aload_n 0, 1) := by decide +kernel
theorem dJ2_getChar_3b067_12 : decode cJ2_getChar_3b067 12 = .ok (.invokestatic 48, 3) := by decide +kernel
theorem dJ2_getChar_3b067_15 : decode cJ2_getChar_3b067 15 = .ok (.if_icmp .lt 13, 3) := by decide +kernel
theorem dJ2_getChar_3b067_18 : decode cJ2_getChar_3b067 18 = .ok (.new 52, 3) := by decide +kernel
theorem dJ2_getChar_3b067_21 : decode cJ2_getChar_3b067 21 = .ok (.dup, 1) := by decide +kernel
theorem dJ2_getChar_3b067_22 : decode cJ2_getChar_3b067 22 = .ok (.ldc 54, 2) := by decide +kernel
theorem dJ2_getChar_3b067_24 : decode cJ2_getChar_3b067 24 = .ok (.invokespecial 56, 3) := by decide +kernel
theorem dJ2_getChar_3b067_27 : decode cJ2_getChar_3b067 27 = .ok (.athrow, 1) := by decide +kernel
theorem dJ2_getChar_3b067_28 : decode cJ2_getChar_3b067 28 = .ok (.iload_n 1, 1) := by decide +kernel
theorem dJ2_getChar_3b067_29 : decode cJ2_getChar_3b067 29 = .ok (.iconst 1, 1) := by decide +kernel
theorem dJ2_getChar_3b067_30 : decode cJ2_getChar_3b067 30 = .ok (.ishl, 1) := by decide +kernel
theorem dJ2_getChar_3b067_31 : decode cJ2_getChar_3b067 31 = .ok (.istore_n 1, 1) := by decide +kernel
theorem dJ2_getChar_3b067_32 : decode cJ2_getChar_3b067 32 = .ok (.aload_n 0, 1) := by decide +kernel
theorem dJ2_getChar_3b067_33 : decode cJ2_getChar_3b067 33 = .ok (.iload_n 1, 1) := by decide +kernel
theorem dJ2_getChar_3b067_34 : decode cJ2_getChar_3b067 34 = .ok (.iinc 1 1, 3) := by decide +kernel
theorem dJ2_getChar_3b067_37 : decode cJ2_getChar_3b067 37 = .ok (.baload, 1) := by decide +kernel
theorem dJ2_getChar_3b067_38 : decode cJ2_getChar_3b067 38 = .ok (.sipush 255, 3) := by decide +kernel
theorem dJ2_getChar_3b067_41 : decode cJ2_getChar_3b067 41 = .ok (.iand, 1) := by decide +kernel
theorem dJ2_getChar_3b067_42 : decode cJ2_getChar_3b067 42 = .ok (.getstatic 59, 3) := by decide +kernel
theorem dJ2_getChar_3b067_45 : decode cJ2_getChar_3b067 45 = .ok (.ishl, 1) := by decide +kernel
theorem dJ2_getChar_3b067_46 : decode cJ2_getChar_3b067 46 = .ok (.aload_n 0, 1) := by decide +kernel
theorem dJ2_getChar_3b067_47 : decode cJ2_getChar_3b067 47 = .ok (.iload_n 1, 1) := by decide +kernel
theorem dJ2_getChar_3b067_48 : decode cJ2_getChar_3b067 48 = .ok (.baload, 1) := by decide +kernel
theorem dJ2_getChar_3b067_49 : decode cJ2_getChar_3b067 49 = .ok (.sipush 255, 3) := by decide +kernel
theorem dJ2_getChar_3b067_52 : decode cJ2_getChar_3b067 52 = .ok (.iand, 1) := by decide +kernel
theorem dJ2_getChar_3b067_53 : decode cJ2_getChar_3b067 53 = .ok (.getstatic 63, 3) := by decide +kernel
theorem dJ2_getChar_3b067_56 : decode cJ2_getChar_3b067 56 = .ok (.ishl, 1) := by decide +kernel
theorem dJ2_getChar_3b067_57 : decode cJ2_getChar_3b067 57 = .ok (.ior, 1) := by decide +kernel
theorem dJ2_getChar_3b067_58 : decode cJ2_getChar_3b067 58 = .ok (.i2c, 1) := by decide +kernel
theorem dJ2_getChar_3b067_59 : decode cJ2_getChar_3b067 59 = .ok (.ireturn, 1) := by decide +kernel
theorem dJ2_length_9d52b_0 : decode cJ2_length_9d52b 0 = .ok (.aload_n 0, 1) := by decide +kernel
theorem dJ2_length_9d52b_1 : decode cJ2_length_9d52b 1 = .ok (.arraylength, 1) := by decide +kernel
theorem dJ2_length_9d52b_2 : decode cJ2_length_9d52b 2 = .ok (.iconst 1, 1) := by decide +kernel
theorem dJ2_length_9d52b_3 : decode cJ2_length_9d52b 3 = .ok (.ishr, 1) := by decide +kernel
theorem dJ2_length_9d52b_4 : decode cJ2_length_9d52b 4 = .ok (.ireturn, 1) := by decide +kernel
theorem dJ2_coderFromArrayLen_85cad_0 : decode cJ2_coderFromArrayLen_85cad 0 = .ok (.iload_n 1, 1) := by decide +kernel
theorem dJ2_coderFromArrayLen_85cad_1 : decode cJ2_coderFromArrayLen_85cad 1 = .ok (.aload_n 0, 1) := by decide +kernel
theorem dJ2_coderFromArrayLen_85cad_2 : decode cJ2_coderFromArrayLen_85cad 2 = .ok (.arraylength, 1) := by decide +kernel
theorem dJ2_coderFromArrayLen_85cad_3 : decode cJ2_coderFromArrayLen_85cad 3 = .ok (.isub, 1) := by decide +kernel
theorem dJ2_coderFromArrayLen_85cad_4 : decode cJ2_coderFromArrayLen_85cad 4 = .ok (.bipush 31, 2) := by decide +kernel
theorem dJ2_coderFromArrayLen_85cad_6 : decode cJ2_coderFromArrayLen_85cad 6 = .ok (.iushr, 1) := by decide +kernel
theorem dJ2_coderFromArrayLen_85cad_7 : decode cJ2_coderFromArrayLen_85cad 7 = .ok (.i2b, 1) := by decide +kernel
theorem dJ2_coderFromArrayLen_85cad_8 : decode cJ2_coderFromArrayLen_85cad 8 = .ok (.ireturn, 1) := by decide +kernel
theorem dJ2_compress_39247_0 : decode cJ2_compress_39247 0 = .ok (.iload_n 2, 1) := by decide +kernel
theorem dJ2_compress_39247_1 : decode cJ2_compress_39247 1 = .ok (.newarray .byte, 2) := by decide +kernel
theorem dJ2_compress_39247_3 : decode cJ2_compress_39247 3 = .ok (.astore_n 3, 1) := by decide +kernel
theorem dJ2_compress_39247_4 : decode cJ2_compress_39247 4 = .ok (.aload_n 0, 1) := by decide +kernel
theorem dJ2_compress_39247_5 : decode cJ2_compress_39247 5 = .ok (.iload_n 1, 1) := by decide +kernel
theorem dJ2_compress_39247_6 : decode cJ2_compress_39247 6 = .ok (.aload_n 3, 1) := by decide +kernel
theorem dJ2_compress_39247_7 : decode cJ2_compress_39247 7 = .ok (.iconst 0, 1) := by decide +kernel
theorem dJ2_compress_39247_8 : decode cJ2_compress_39247 8 = .ok (.iload_n 2, 1) := by decide +kernel
theorem dJ2_compress_39247_9 : decode cJ2_compress_39247 9 = .ok (.invokestatic 123, 3) := by decide +kernel
theorem dJ2_compress_39247_12 : decode cJ2_compress_39247 12 = .ok (.istore 4, 2) := by decide +kernel
theorem dJ2_compress_39247_14 : decode cJ2_compress_39247 14 = .ok (.iload 4, 2) := by decide +kernel
theorem dJ2_compress_39247_16 : decode cJ2_compress_39247 16 = .ok (.iload_n 2, 1) := by decide +kernel
theorem dJ2_compress_39247_17 : decode cJ2_compress_39247 17 = .ok (.if_icmp .eq 47, 3) := by decide +kernel
theorem dJ2_compress_39247_20 : decode cJ2_compress_39247 20 = .ok (.aload_n 0, 1) := by decide +kernel
theorem dJ2_compress_39247_21 : decode cJ2_compress_39247 21 = .ok (.iload_n 1, 1) := by decide +kernel
theorem dJ2_compress_39247_22 : decode cJ2_compress_39247 22 = .ok (.iconst 1, 1) := by decide +kernel
theorem dJ2_compress_39247_23 : decode cJ2_compress_39247 23 = .ok (.ishl, 1) := by decide +kernel
theorem dJ2_compress_39247_24 : decode cJ2_compress_39247 24 = .ok (.iload_n 1, 1) := by decide +kernel
theorem dJ2_compress_39247_25 : decode cJ2_compress_39247 25 = .ok (.iload_n 2, 1) := by decide +kernel
theorem dJ2_compress_39247_26 : decode cJ2_compress_39247 26 = .ok (.iadd, 1) := by decide +kernel
theorem dJ2_compress_39247_27 : decode cJ2_compress_39247 27 = .ok (.invokestatic 11, 3) := by decide +kernel
theorem dJ2_compress_39247_30 : decode cJ2_compress_39247 30 = .ok (.invokestatic 126, 3) := by decide +kernel
theorem dJ2_compress_39247_33 : decode cJ2_compress_39247 33 = .ok (.astore 5, 2) := by decide +kernel
theorem dJ2_compress_39247_35 : decode cJ2_compress_39247 35 = .ok (.aload 5, 2) := by decide +kernel
theorem dJ2_compress_39247_37 : decode cJ2_compress_39247 37 = .ok (.iload 4, 2) := by decide +kernel
theorem dJ2_compress_39247_39 : decode cJ2_compress_39247 39 = .ok (.invokestatic 71, 3) := by decide +kernel
theorem dJ2_compress_39247_42 : decode cJ2_compress_39247 42 = .ok (.sipush 255, 3) := by decide +kernel
theorem dJ2_compress_39247_45 : decode cJ2_compress_39247 45 = .ok (.if_icmp .gt 16, 3) := by decide +kernel
theorem dJ2_compress_39247_48 : decode cJ2_compress_39247 48 = .ok (.aload 5, 2) := by decide +kernel
theorem dJ2_compress_39247_50 : decode cJ2_compress_39247 50 = .ok (.iconst 0, 1) := by decide +kernel
theorem dJ2_compress_39247_51 : decode cJ2_compress_39247 51 = .ok (.aload_n 3, 1) := by decide +kernel
theorem dJ2_compress_39247_52 : decode cJ2_compress_39247 52 = .ok (.iconst 0, 1) := by decide +kernel
theorem dJ2_compress_39247_53 : decode cJ2_compress_39247 53 = .ok (.iload_n 2, 1) := by decide +kernel
theorem dJ2_compress_39247_54 : decode cJ2_compress_39247 54 = .ok (.invokestatic 123, 3) := by decide +kernel
theorem dJ2_compress_39247_57 : decode cJ2_compress_39247 57 = .ok (.iload_n 2, 1) := by decide +kernel
theorem dJ2_compress_39247_58 : decode cJ2_compress_39247 58 = .ok (.if_icmp .eq 6, 3) := by decide +kernel
theorem dJ2_compress_39247_61 : decode cJ2_compress_39247 61 = .ok (.aload 5, 2) := by decide +kernel
theorem dJ2_compress_39247_63 : decode cJ2_compress_39247 63 = .ok (.areturn, 1) := by decide +kernel
theorem dJ2_compress_39247_64 : decode cJ2_compress_39247 64 = .ok (.aload_n 3, 1) := by decide +kernel
theorem dJ2_compress_39247_65 : decode cJ2_compress_39247 65 = .ok (.areturn, 1) := by decide +kernel
theorem dJ2_compress_5af95_0 : decode cJ2_compress_5af95 0 = .ok (.iload_n 1, 1) := by decide +kernel
theorem dJ2_compress_5af95_1 : decode cJ2_compress_5af95 1 = .ok (.iload 4, 2) := by decide +kernel
theorem dJ2_compress_5af95_3 : decode cJ2_compress_5af95 3 = .ok (.aload_n 0, 1) := by decide +kernel
theorem dJ2_compress_5af95_4 : decode cJ2_compress_5af95 4 = .ok (.invokestatic 173, 3) := by decide +kernel
theorem dJ2_compress_5af95_7 : decode cJ2_compress_5af95 7 = .ok (.iconst 0, 1) := by decide +kernel
theorem dJ2_compress_5af95_8 : decode cJ2_compress_5af95 8 = .ok (.istore 5, 2) := by decide +kernel
theorem dJ2_compress_5af95_10 : decode cJ2_compress_5af95 10 = .ok (.iload 5, 2) := by decide +kernel
theorem dJ2_compress_5af95_12 : decode cJ2_compress_5af95 12 = .ok (.iload 4, 2) := by decide +kernel
theorem dJ2_compress_5af95_14 : decode cJ2_compress_5af95 14 = .ok (.if_icmp .ge 39, 3) := by decide +kernel
theorem dJ2_compress_5af95_17 : decode cJ2_compress_5af95 17 = .ok (.aload_n 0, 1) := by decide +kernel
theorem dJ2_compress_5af95_18 : decode cJ2_compress_5af95 18 = .ok (.iload_n 1, 1) := by decide +kernel
theorem dJ2_compress_5af95_19 : decode cJ2_compress_5af95 19 = .ok (.invokestatic 71, 3) := by decide +kernel
theorem dJ2_compress_5af95_22 : decode cJ2_compress_5af95 22 = .ok (.istore 6, 2) := by decide +kernel
theorem dJ2_compress_5af95_24 : decode cJ2_compress_5af95 24 = .ok (.iload 6, 2) := by decide +kernel
theorem dJ2_compress_5af95_26 : decode cJ2_compress_5af95 26 = .ok (.sipush 255, 3) := by decide +kernel
theorem dJ2_compress_5af95_29 : decode cJ2_compress_5af95 29 = .ok (.if_icmp .le 6, 3) := by decide +kernel
theorem dJ2_compress_5af95_32 : decode cJ2_compress_5af95 32 = .ok (.iload 5, 2) := by decide +kernel
theorem dJ2_compress_5af95_34 : decode cJ2_compress_5af95 34 = .ok (.ireturn, 1) := by decide +kernel
theorem dJ2_compress_5af95_35 : decode cJ2_compress_5af95 35 = .ok (.aload_n 2, 1) := by decide +kernel
theorem dJ2_compress_5af95_36 : decode cJ2_compress_5af95 36 = .ok (.iload_n 3, 1) := by decide +kernel
theorem dJ2_compress_5af95_37 : decode cJ2_compress_5af95 37 = .ok (.iload 6, 2) := by decide +kernel
theorem dJ2_compress_5af95_39 : decode cJ2_compress_5af95 39 = .ok (.i2b, 1) := by decide +kernel
theorem dJ2_compress_5af95_40 : decode cJ2_compress_5af95 40 = .ok (.bastore, 1) := by decide +kernel
theorem dJ2_compress_5af95_41 : decode cJ2_compress_5af95 41 = .ok (.iinc 1 1, 3) := by decide +kernel
theorem dJ2_compress_5af95_44 : decode cJ2_compress_5af95 44 = .ok (.iinc 3 1, 3) := by decide +kernel
theorem dJ2_compress_5af95_47 : decode cJ2_compress_5af95 47 = .ok (.iinc 5 1, 3) := by decide +kernel
theorem dJ2_compress_5af95_50 : decode cJ2_compress_5af95 50 = .ok (.goto (-40), 3) := by decide +kernel
theorem dJ2_compress_5af95_53 : decode cJ2_compress_5af95 53 = .ok (.iload 4, 2) := by decide +kernel
theorem dJ2_compress_5af95_55 : decode cJ2_compress_5af95 55 = .ok (.ireturn, 1) := by decide +kernel
theorem dJ2_fillNull_b72d1_0 : decode cJ2_fillNull_b72d1 0 = .ok (.aload_n 0, 1) := by decide +kernel
theorem dJ2_fillNull_b72d1_1 : decode cJ2_fillNull_b72d1 1 = .ok (.iload_n 1, 1) := by decide +kernel
theorem dJ2_fillNull_b72d1_2 : decode cJ2_fillNull_b72d1 2 = .ok (.iconst 1, 1) := by decide +kernel
theorem dJ2_fillNull_b72d1_3 : decode cJ2_fillNull_b72d1 3 = .ok (.ishl, 1) := by decide +kernel
theorem dJ2_fillNull_b72d1_4 : decode cJ2_fillNull_b72d1 4 = .ok (.iload_n 2, 1) := by decide +kernel
theorem dJ2_fillNull_b72d1_5 : decode cJ2_fillNull_b72d1 5 = .ok (.iconst 1, 1) := by decide +kernel
theorem dJ2_fillNull_b72d1_6 : decode cJ2_fillNull_b72d1 6 = .ok (.ishl, 1) := by decide +kernel
theorem dJ2_fillNull_b72d1_7 : decode cJ2_fillNull_b72d1 7 = .ok (.iconst 0, 1) := by decide +kernel
theorem dJ2_fillNull_b72d1_8 : decode cJ2_fillNull_b72d1 8 = .ok (.invokestatic 380, 3) := by decide +kernel
theorem dJ2_fillNull_b72d1_11 : decode cJ2_fillNull_b72d1 11 = .ok (.return_, 1) := by decide +kernel
theorem dJ2_putCharSB_b72d1_0 : decode cJ2_putCharSB_b72d1 0 = .ok (.iload_n 1, 1) := by decide +kernel
theorem dJ2_putCharSB_b72d1_1 : decode cJ2_putCharSB_b72d1 1 = .ok (.aload_n 0, 1) := by decide +kernel
theorem dJ2_putCharSB_b72d1_2 : decode cJ2_putCharSB_b72d1 2 = .ok (.invokestatic 67, 3) := by decide +kernel
theorem dJ2_putCharSB_b72d1_5 : decode cJ2_putCharSB_b72d1 5 = .ok (.aload_n 0, 1) := by decide +kernel
theorem dJ2_putCharSB_b72d1_6 : decode cJ2_putCharSB_b72d1 6 = .ok (.iload_n 1, 1) := by decide +kernel
theorem dJ2_putCharSB_b72d1_7 : decode cJ2_putCharSB_b72d1 7 = .ok (.iload_n 2, 1) := by decide +kernel
theorem dJ2_putCharSB_b72d1_8 : decode cJ2_putCharSB_b72d1 8 = .ok (.invokestatic 111, 3) := by decide +kernel
theorem dJ2_putCharSB_b72d1_11 : decode cJ2_putCharSB_b72d1 11 = .ok (.return_, 1) := by decide +kernel
theorem dJ2_getChars_46870_0 : decode cJ2_getChars_46870 0 = .ok (.iload_n 1, 1) := by decide +kernel
theorem dJ2_getChars_46870_1 : decode cJ2_getChars_46870 1 = .ok (.iload_n 2, 1) := by decide +kernel
theorem dJ2_getChars_46870_2 : decode cJ2_getChars_46870 2 = .ok (.aload_n 3, 1) := by decide +kernel
theorem dJ2_getChars_46870_3 : decode cJ2_getChars_46870 3 = .ok (.invokestatic 96, 3) := by decide +kernel
theorem dJ2_getChars_46870_6 : decode cJ2_getChars_46870 6 = .ok (.iload_n 0, 1) := by decide +kernel
theorem dJ2_getChars_46870_7 : decode cJ2_getChars_46870 7 = .ok (.iload_n 2, 1) := by decide +kernel
theorem dJ2_getChars_46870_8 : decode cJ2_getChars_46870 8 = .ok (.aload_n 3, 1) := by decide +kernel
theorem dJ2_getChars_46870_9 : decode cJ2_getChars_46870 9 = .ok (.invokestatic 393, 3) := by decide +kernel
theorem dJ2_getChars_46870_12 : decode cJ2_getChars_46870 12 = .ok (.istore 4, 2) := by decide +kernel
theorem dJ2_getChars_46870_14 : decode cJ2_getChars_46870 14 = .ok (.getstatic 44, 3) := by decide +kernel
theorem dJ2_getChars_46870_17 : decode cJ2_getChars_46870 17 = .ok (.ifCond .ne 17, 3) := by decide +kernel
theorem dJ2_getChars_46870_20 : decode cJ2_getChars_46870 20 = .ok (.iload_n 1, 1) := by decide +kernel
theorem dJ2_getChars_46870_21 : decode cJ2_getChars_46870 21 = .ok (.iload 4, 2) := by decide +kernel
theorem dJ2_getChars_46870_23 : decode cJ2_getChars_46870 23 = .ok (.if_icmp .eq 11, 3) := by decide +kernel
theorem dJ2_getChars_46870_26 : decode cJ2_getChars_46870 26 = .ok (.new 52, 3) := by decide +kernel
theorem dJ2_getChars_46870_29 : decode cJ2_getChars_46870 29 = .ok (.dup, 1) := by decide +kernel
theorem dJ2_getChars_46870_30 : decode cJ2_getChars_46870 30 = .ok (.invokespecial 66, 3) := by decide +kernel
theorem dJ2_getChars_46870_33 : decode cJ2_getChars_46870 33 = .ok (.athrow, 1) := by decide +kernel
theorem dJ2_getChars_46870_34 : decode cJ2_getChars_46870 34 = .ok (.iload 4, 2) := by decide +kernel
theorem dJ2_getChars_46870_36 : decode cJ2_getChars_46870 36 = .ok (.ireturn, 1) := by decide +kernel
theorem dJ2_putCharsAt_cd4e5_0 : decode cJ2_putCharsAt_cd4e5 0 = .ok (.iload_n 1, 1) := by decide +kernel
theorem dJ2_putCharsAt_cd4e5_1 : decode cJ2_putCharsAt_cd4e5 1 = .ok (.iconst 4, 1) := by decide +kernel
theorem dJ2_putCharsAt_cd4e5_2 : decode cJ2_putCharsAt_cd4e5 2 = .ok (.iadd, 1) := by decide +kernel
theorem dJ2_putCharsAt_cd4e5_3 : decode cJ2_putCharsAt_cd4e5 3 = .ok (.istore 6, 2) := by decide +kernel
theorem dJ2_putCharsAt_cd4e5_5 : decode cJ2_putCharsAt_cd4e5 5 = .ok (.iload_n 1, 1) := by decide +kernel
theorem dJ2_putCharsAt_cd4e5_6 : decode cJ2_putCharsAt_cd4e5 6 = .ok (.iload 6, 2) := by decide +kernel
theorem dJ2_putCharsAt_cd4e5_8 : decode cJ2_putCharsAt_cd4e5 8 = .ok (.aload_n 0, 1) := by decide +kernel
theorem dJ2_putCharsAt_cd4e5_9 : decode cJ2_putCharsAt_cd4e5 9 = .ok (.invokestatic 96, 3) := by decide +kernel
theorem dJ2_putCharsAt_cd4e5_12 : decode cJ2_putCharsAt_cd4e5 12 = .ok (.aload_n 0, 1) := by decide +kernel
theorem dJ2_putCharsAt_cd4e5_13 : decode cJ2_putCharsAt_cd4e5 13 = .ok (.iload_n 1, 1) := by decide +kernel
theorem dJ2_putCharsAt_cd4e5_14 : decode cJ2_putCharsAt_cd4e5 14 = .ok (.iinc 1 1, 3) := by decide +kernel
theorem dJ2_putCharsAt_cd4e5_17 : decode cJ2_putCharsAt_cd4e5 17 = .ok (.iload_n 2, 1) := by decide +kernel
theorem dJ2_putCharsAt_cd4e5_18 : decode cJ2_putCharsAt_cd4e5 18 = .ok (.invokestatic 111, 3) := by decide +kernel
theorem dJ2_putCharsAt_cd4e5_21 : decode cJ2_putCharsAt_cd4e5 21 = .ok (.aload_n 0, 1) := by decide +kernel
theorem dJ2_putCharsAt_cd4e5_22 : decode cJ2_putCharsAt_cd4e5 22 = .ok (.iload_n 1, 1) := by decide +kernel
theorem dJ2_putCharsAt_cd4e5_23 : decode cJ2_putCharsAt_cd4e5 23 = .ok (.iinc 1 1, 3) := by decide +kernel
theorem dJ2_putCharsAt_cd4e5_26 : decode cJ2_putCharsAt_cd4e5 26 = .ok (.iload_n 3, 1) := by decide +kernel
theorem dJ2_putCharsAt_cd4e5_27 : decode cJ2_putCharsAt_cd4e5 27 = .ok (.invokestatic 111, 3) := by decide +kernel
theorem dJ2_putCharsAt_cd4e5_30 : decode cJ2_putCharsAt_cd4e5 30 = .ok (.aload_n 0, 1) := by decide +kernel
theorem dJ2_putCharsAt_cd4e5_31 : decode cJ2_putCharsAt_cd4e5 31 = .ok (.iload_n 1, 1) := by decide +kernel
theorem dJ2_putCharsAt_cd4e5_32 : decode cJ2_putCharsAt_cd4e5 32 = .ok (.iinc 1 1, 3) := by decide +kernel
theorem dJ2_putCharsAt_cd4e5_35 : decode cJ2_putCharsAt_cd4e5 35 = .ok (.iload 4, 2) := by decide +kernel
theorem dJ2_putCharsAt_cd4e5_37 : decode cJ2_putCharsAt_cd4e5 37 = .ok (.invokestatic 111, 3) := by decide +kernel
theorem dJ2_putCharsAt_cd4e5_40 : decode cJ2_putCharsAt_cd4e5 40 = .ok (.aload_n 0, 1) := by decide +kernel
theorem dJ2_putCharsAt_cd4e5_41 : decode cJ2_putCharsAt_cd4e5 41 = .ok (.iload_n 1, 1) := by decide +kernel
theorem dJ2_putCharsAt_cd4e5_42 : decode cJ2_putCharsAt_cd4e5 42 = .ok (.iinc 1 1, 3) := by decide +kernel
theorem dJ2_putCharsAt_cd4e5_45 : decode cJ2_putCharsAt_cd4e5 45 = .ok (.iload 5, 2) := by decide +kernel
theorem dJ2_putCharsAt_cd4e5_47 : decode cJ2_putCharsAt_cd4e5 47 = .ok (.invokestatic 111, 3) := by decide +kernel
theorem dJ2_putCharsAt_cd4e5_50 : decode cJ2_putCharsAt_cd4e5 50 = .ok (.getstatic 44, 3) := by decide +kernel
theorem dJ2_putCharsAt_cd4e5_53 : decode cJ2_putCharsAt_cd4e5 53 = .ok (.ifCond .ne 17, 3) := by decide +kernel
theorem dJ2_putCharsAt_cd4e5_56 : decode cJ2_putCharsAt_cd4e5 56 = .ok (.iload_n 1, 1) := by decide +kernel
theorem dJ2_putCharsAt_cd4e5_57 : decode cJ2_putCharsAt_cd4e5 57 = .ok (.iload 6, 2) := by decide +kernel
theorem dJ2_putCharsAt_cd4e5_59 : decode cJ2_putCharsAt_cd4e5 59 = .ok (.if_icmp .eq 11, 3) := by decide +kernel
theorem dJ2_putCharsAt_cd4e5_62 : decode cJ2_putCharsAt_cd4e5 62 = .ok (.new 52, 3) := by decide +kernel
theorem dJ2_putCharsAt_cd4e5_65 : decode cJ2_putCharsAt_cd4e5 65 = .ok (.dup, 1) := by decide +kernel
theorem dJ2_putCharsAt_cd4e5_66 : decode cJ2_putCharsAt_cd4e5 66 = .ok (.invokespecial 66, 3) := by decide +kernel
theorem dJ2_putCharsAt_cd4e5_69 : decode cJ2_putCharsAt_cd4e5 69 = .ok (.athrow, 1) := by decide +kernel
theorem dJ2_putCharsAt_cd4e5_70 : decode cJ2_putCharsAt_cd4e5 70 = .ok (.iload 6, 2) := by decide +kernel
theorem dJ2_putCharsAt_cd4e5_72 : decode cJ2_putCharsAt_cd4e5 72 = .ok (.ireturn, 1) := by decide +kernel
theorem dJ2_inflate_0e8fd_0 : decode cJ2_inflate_0e8fd 0 = .ok (.iload_n 3, 1) := by decide +kernel
theorem dJ2_inflate_0e8fd_1 : decode cJ2_inflate_0e8fd 1 = .ok (.iload 4, 2) := by decide +kernel
theorem dJ2_inflate_0e8fd_3 : decode cJ2_inflate_0e8fd 3 = .ok (.aload_n 2, 1) := by decide +kernel
theorem dJ2_inflate_0e8fd_4 : decode cJ2_inflate_0e8fd 4 = .ok (.invokestatic 173, 3) := by decide +kernel
theorem dJ2_inflate_0e8fd_7 : decode cJ2_inflate_0e8fd 7 = .ok (.iconst 0, 1) := by decide +kernel
theorem dJ2_inflate_0e8fd_8 : decode cJ2_inflate_0e8fd 8 = .ok (.istore 5, 2) := by decide +kernel
theorem dJ2_inflate_0e8fd_10 : decode cJ2_inflate_0e8fd 10 = .ok (.iload 5, 2) := by decide +kernel
theorem dJ2_inflate_0e8fd_12 : decode cJ2_inflate_0e8fd 12 = .ok (.iload 4, 2) := by decide +kernel
theorem dJ2_inflate_0e8fd_14 : decode cJ2_inflate_0e8fd 14 = .ok (.if_icmp .ge 27, 3) := by decide +kernel
theorem dJ2_inflate_0e8fd_17 : decode cJ2_inflate_0e8fd 17 = .ok (.aload_n 2, 1) := by decide +kernel
theorem dJ2_inflate_0e8fd_18 : decode cJ2_inflate_0e8fd 18 = .ok (.iload_n 3, 1) := by decide +kernel
theorem dJ2_inflate_0e8fd_19 : decode cJ2_inflate_0e8fd 19 = .ok (.iinc 3 1, 3) := by decide +kernel
theorem dJ2_inflate_0e8fd_22 : decode cJ2_inflate_0e8fd 22 = .ok (.aload_n 0, 1) := by decide +kernel
theorem dJ2_inflate_0e8fd_23 : decode cJ2_inflate_0e8fd 23 = .ok (.iload_n 1, 1) := by decide +kernel
theorem dJ2_inflate_0e8fd_24 : decode cJ2_inflate_0e8fd 24 = .ok (.iinc 1 1, 3) := by decide +kernel
theorem dJ2_inflate_0e8fd_27 : decode cJ2_inflate_0e8fd 27 = .ok (.baload, 1) := by decide +kernel
theorem dJ2_inflate_0e8fd_28 : decode cJ2_inflate_0e8fd 28 = .ok (.sipush 255, 3) := by decide +kernel
theorem dJ2_inflate_0e8fd_31 : decode cJ2_inflate_0e8fd 31 = .ok (.iand, 1) := by decide +kernel
theorem dJ2_inflate_0e8fd_32 : decode cJ2_inflate_0e8fd 32 = .ok (.invokestatic 111, 3) := by decide +kernel
theorem dJ2_inflate_0e8fd_35 : decode cJ2_inflate_0e8fd 35 = .ok (.iinc 5 1, 3) := by decide +kernel
theorem dJ2_inflate_0e8fd_38 : decode cJ2_inflate_0e8fd 38 = .ok (.goto (-28), 3) := by decide +kernel
theorem dJ2_inflate_0e8fd_41 : decode cJ2_inflate_0e8fd 41 = .ok (.return_, 1) := by decide +kernel
theorem dJ2_getChars_ba4f3_0 : decode cJ2_getChars_ba4f3 0 = .ok (.iload_n 1, 1) := by decide +kernel
theorem dJ2_getChars_ba4f3_1 : decode cJ2_getChars_ba4f3 1 = .ok (.istore 5, 2) := by decide +kernel
theorem dJ2_getChars_ba4f3_3 : decode cJ2_getChars_ba4f3 3 = .ok (.iload_n 0, 1) := by decide +kernel
theorem dJ2_getChars_ba4f3_4 : decode cJ2_getChars_ba4f3 4 = .ok (.ifCond .ge 7, 3) := by decide +kernel
theorem dJ2_getChars_ba4f3_7 : decode cJ2_getChars_ba4f3 7 = .ok (.iconst 1, 1) := by decide +kernel
theorem dJ2_getChars_ba4f3_8 : decode cJ2_getChars_ba4f3 8 = .ok (.goto 4, 3) := by decide +kernel
theorem dJ2_getChars_ba4f3_11 : decode cJ2_getChars_ba4f3 11 = .ok (.iconst 0, 1) := by decide +kernel
theorem dJ2_getChars_ba4f3_12 : decode cJ2_getChars_ba4f3 12 = .ok (.istore 6, 2) := by decide +kernel
theorem dJ2_getChars_ba4f3_14 : decode cJ2_getChars_ba4f3 14 = .ok (.iload 6, 2) := by decide +kernel
theorem dJ2_getChars_ba4f3_16 : decode cJ2_getChars_ba4f3 16 = .ok (.ifCond .ne 6, 3) := by decide +kernel
theorem dJ2_getChars_ba4f3_19 : decode cJ2_getChars_ba4f3 19 = .ok (.iload_n 0, 1) := by decide +kernel
theorem dJ2_getChars_ba4f3_20 : decode cJ2_getChars_ba4f3 20 = .ok (.ineg, 1) := by decide +kernel
theorem dJ2_getChars_ba4f3_21 : decode cJ2_getChars_ba4f3 21 = .ok (.istore_n 0, 1) := by decide +kernel
theorem dJ2_getChars_ba4f3_22 : decode cJ2_getChars_ba4f3 22 = .ok (.iload_n 0, 1) := by decide +kernel
theorem dJ2_getChars_ba4f3_23 : decode cJ2_getChars_ba4f3 23 = .ok (.bipush (-100), 2) := by decide +kernel
theorem dJ2_getChars_ba4f3_25 : decode cJ2_getChars_ba4f3 25 = .ok (.if_icmp .gt 51, 3) := by decide +kernel
theorem dJ2_getChars_ba4f3_28 : decode cJ2_getChars_ba4f3 28 = .ok (.iload_n 0, 1) := by decide +kernel
theorem dJ2_getChars_ba4f3_29 : decode cJ2_getChars_ba4f3 29 = .ok (.bipush 100, 2) := by decide +kernel
theorem dJ2_getChars_ba4f3_31 : decode cJ2_getChars_ba4f3 31 = .ok (.idiv, 1) := by decide +kernel
theorem dJ2_getChars_ba4f3_32 : decode cJ2_getChars_ba4f3 32 = .ok (.istore_n 3, 1) := by decide +kernel
theorem dJ2_getChars_ba4f3_33 : decode cJ2_getChars_ba4f3 33 = .ok (.iload_n 3, 1) := by decide +kernel
theorem dJ2_getChars_ba4f3_34 : decode cJ2_getChars_ba4f3 34 = .ok (.bipush 100, 2) := by decide +kernel
theorem dJ2_getChars_ba4f3_36 : decode cJ2_getChars_ba4f3 36 = .ok (.imul, 1) := by decide +kernel
theorem dJ2_getChars_ba4f3_37 : decode cJ2_getChars_ba4f3 37 = .ok (.iload_n 0, 1) := by decide +kernel
theorem dJ2_getChars_ba4f3_38 : decode cJ2_getChars_ba4f3 38 = .ok (.isub, 1) := by decide +kernel
theorem dJ2_getChars_ba4f3_39 : decode cJ2_getChars_ba4f3 39 = .ok (.istore 4, 2) := by decide +kernel
theorem dJ2_getChars_ba4f3_41 : decode cJ2_getChars_ba4f3 41 = .ok (.iload_n 3, 1) := by decide +kernel
theorem dJ2_getChars_ba4f3_42 : decode cJ2_getChars_ba4f3 42 = .ok (.istore_n 0, 1) := by decide +kernel
theorem dJ2_getChars_ba4f3_43 : decode cJ2_getChars_ba4f3 43 = .ok (.aload_n 2, 1) := by decide +kernel
theorem dJ2_getChars_ba4f3_44 : decode cJ2_getChars_ba4f3 44 = .ok (.iinc 5 (-1), 3) := by decide +kernel
theorem dJ2_getChars_ba4f3_47 : decode cJ2_getChars_ba4f3 47 = .ok (.iload 5, 2) := by decide +kernel
theorem dJ2_getChars_ba4f3_49 : decode cJ2_getChars_ba4f3 49 = .ok (.getstatic 403, 3) := by decide +kernel
theorem dJ2_getChars_ba4f3_52 : decode cJ2_getChars_ba4f3 52 = .ok (.iload 4, 2) := by decide +kernel
theorem dJ2_getChars_ba4f3_54 : decode cJ2_getChars_ba4f3 54 = .ok (.baload, 1) := by decide +kernel
theorem dJ2_getChars_ba4f3_55 : decode cJ2_getChars_ba4f3 55 = .ok (.invokestatic 111, 3) := by decide +kernel
theorem dJ2_getChars_ba4f3_58 : decode cJ2_getChars_ba4f3 58 = .ok (.aload_n 2, 1) := by decide +kernel
theorem dJ2_getChars_ba4f3_59 : decode cJ2_getChars_ba4f3 59 = .ok (.iinc 5 (-1), 3) := by decide +kernel
theorem dJ2_getChars_ba4f3_62 : decode cJ2_getChars_ba4f3 62 = .ok (.iload 5, 2) := by decide +kernel
theorem dJ2_getChars_ba4f3_64 : decode cJ2_getChars_ba4f3 64 = .ok (.getstatic 407, 3) := by decide +kernel
theorem dJ2_getChars_ba4f3_67 : decode cJ2_getChars_ba4f3 67 = .ok (.iload 4, 2) := by decide +kernel
theorem dJ2_getChars_ba4f3_69 : decode cJ2_getChars_ba4f3 69 = .ok (.baload, 1) := by decide +kernel
theorem dJ2_getChars_ba4f3_70 : decode cJ2_getChars_ba4f3 70 = .ok (.invokestatic 111, 3) := by decide +kernel
theorem dJ2_getChars_ba4f3_73 : decode cJ2_getChars_ba4f3 73 = .ok (.goto (-51), 3) := by decide +kernel
theorem dJ2_getChars_ba4f3_76 : decode cJ2_getChars_ba4f3 76 = .ok (.aload_n 2, 1) := by decide +kernel
theorem dJ2_getChars_ba4f3_77 : decode cJ2_getChars_ba4f3 77 = .ok (.iinc 5 (-1), 3) := by decide +kernel
theorem dJ2_getChars_ba4f3_80 : decode cJ2_getChars_ba4f3 80 = .ok (.iload 5, 2) := by decide +kernel
theorem dJ2_getChars_ba4f3_82 : decode cJ2_getChars_ba4f3 82 = .ok (.getstatic 403, 3) := by decide +kernel
theorem dJ2_getChars_ba4f3_85 : decode cJ2_getChars_ba4f3 85 = .ok (.iload_n 0, 1) := by decide +kernel
theorem dJ2_getChars_ba4f3_86 : decode cJ2_getChars_ba4f3 86 = .ok (.ineg, 1) := by decide +kernel
theorem dJ2_getChars_ba4f3_87 : decode cJ2_getChars_ba4f3 87 = .ok (.baload, 1) := by decide +kernel
theorem dJ2_getChars_ba4f3_88 : decode cJ2_getChars_ba4f3 88 = .ok (.invokestatic 111, 3) := by decide +kernel
theorem dJ2_getChars_ba4f3_91 : decode cJ2_getChars_ba4f3 91 = .ok (.iload_n 0, 1) := by decide +kernel
theorem dJ2_getChars_ba4f3_92 : decode cJ2_getChars_ba4f3 92 = .ok (.bipush (-9), 2) := by decide +kernel
theorem dJ2_getChars_ba4f3_94 : decode cJ2_getChars_ba4f3 94 = .ok (.if_icmp .ge 18, 3) := by decide +kernel
theorem dJ2_getChars_ba4f3_97 : decode cJ2_getChars_ba4f3 97 = .ok (.aload_n 2, 1) := by decide +kernel
theorem dJ2_getChars_ba4f3_98 : decode cJ2_getChars_ba4f3 98 = .ok (.iinc 5 (-1), 3) := by decide +kernel
theorem dJ2_getChars_ba4f3_101 : decode cJ2_getChars_ba4f3 101 = .ok (.iload 5, 2) := by decide +kernel
theorem dJ2_getChars_ba4f3_103 : decode cJ2_getChars_ba4f3 103 = .ok (.getstatic 407, 3) := by decide +kernel
theorem dJ2_getChars_ba4f3_106 : decode cJ2_getChars_ba4f3 106 = .ok (.iload_n 0, 1) := by decide +kernel
theorem dJ2_getChars_ba4f3_107 : decode cJ2_getChars_ba4f3 107 = .ok (.ineg, 1) := by decide +kernel
theorem dJ2_getChars_ba4f3_108 : decode cJ2_getChars_ba4f3 108 = .ok (.baload, 1) := by decide +kernel
theorem dJ2_getChars_ba4f3_109 : decode cJ2_getChars_ba4f3 109 = .ok (.invokestatic 111, 3) := by decide +kernel
theorem dJ2_getChars_ba4f3_112 : decode cJ2_getChars_ba4f3 112 = .ok (.iload 6, 2) := by decide +kernel
theorem dJ2_getChars_ba4f3_114 : decode cJ2_getChars_ba4f3 114 = .ok (.ifCond .eq 14, 3) := by decide +kernel
theorem dJ2_getChars_ba4f3_117 : decode cJ2_getChars_ba4f3 117 = .ok (.aload_n 2, 1) := by decide +kernel
theorem dJ2_getChars_ba4f3_118 : decode cJ2_getChars_ba4f3 118 = .ok (.iinc 5 (-1), 3) := by decide +kernel
theorem dJ2_getChars_ba4f3_121 : decode cJ2_getChars_ba4f3 121 = .ok (.iload 5, 2) := by decide +kernel
theorem dJ2_getChars_ba4f3_123 : decode cJ2_getChars_ba4f3 123 = .ok (.bipush 45, 2) := by decide +kernel
theorem dJ2_getChars_ba4f3_125 : decode cJ2_getChars_ba4f3 125 = .ok (.invokestatic 111, 3) := by decide +kernel
theorem dJ2_getChars_ba4f3_128 : decode cJ2_getChars_ba4f3 128 = .ok (.iload 5, 2) := by decide +kernel
theorem dJ2_getChars_ba4f3_130 : decode cJ2_getChars_ba4f3 130 = .ok (.ireturn, 1) := by decide +kernel
theorem dJ2_checkIndex_2214a_0 : decode cJ2_checkIndex_2214a 0 = .ok (.iload_n 0, 1) := by decide +kernel
theorem dJ2_checkIndex_2214a_1 : decode cJ2_checkIndex_2214a 1 = .ok (.aload_n 1, 1) := by decide +kernel
theorem dJ2_checkIndex_2214a_2 : decode cJ2_checkIndex_2214a 2 = .ok (.invokestatic 48, 3) := by decide +kernel
theorem dJ2_checkIndex_2214a_5 : decode cJ2_checkIndex_2214a 5 = .ok (.invokestatic 414, 3) := by decide +kernel
theorem dJ2_checkIndex_2214a_8 : decode cJ2_checkIndex_2214a 8 = .ok (.return_, 1) := by decide +kernel
theorem dJ2_checkBoundsBeginEnd_d044e_0 : decode cJ2_checkBoundsBeginEnd_d044e 0 = .ok (.iload_n 0, 1) := by decide +kernel
theorem dJ2_checkBoundsBeginEnd_d044e_1 : decode cJ2_checkBoundsBeginEnd_d044e 1 = .ok (.iload_n 1, 1) := by decide +kernel
theorem dJ2_checkBoundsBeginEnd_d044e_2 : decode cJ2_checkBoundsBeginEnd_d044e 2 = .ok (.aload_n 2, 1) := by decide +kernel
theorem dJ2_checkBoundsBeginEnd_d044e_3 : decode cJ2_checkBoundsBeginEnd_d044e 3 = .ok (.invokestatic 48, 3) := by decide +kernel
theorem dJ2_checkBoundsBeginEnd_d044e_6 : decode cJ2_checkBoundsBeginEnd_d044e 6 = .ok (.invokestatic 241, 3) := by decide +kernel
theorem dJ2_checkBoundsBeginEnd_d044e_9 : decode cJ2_checkBoundsBeginEnd_d044e 9 = .ok (.return_, 1) := by decide +kernel
theorem dJ2_checkBoundsOffCount_d044e_0 : decode cJ2_checkBoundsOffCount_d044e 0 = .ok (.iload_n 0, 1) := by decide +kernel
theorem dJ2_checkBoundsOffCount_d044e_1 : decode cJ2_checkBoundsOffCount_d044e 1 = .ok (.iload_n 1, 1) := by decide +kernel
theorem dJ2_checkBoundsOffCount_d044e_2 : decode cJ2_checkBoundsOffCount_d044e 2 = .ok (.aload_n 2, 1) := by decide +kernel
theorem dJ2_checkBoundsOffCount_d044e_3 : decode cJ2_checkBoundsOffCount_d044e 3 = .ok (.invokestatic 48, 3) := by decide +kernel
theorem dJ2_checkBoundsOffCount_d044e_6 : decode cJ2_checkBoundsOffCount_d044e 6 = .ok (.invokestatic 419, 3) := by decide +kernel
theorem dJ2_checkBoundsOffCount_d044e_9 : decode cJ2_checkBoundsOffCount_d044e 9 = .ok (.pop, 1) := by decide +kernel
theorem dJ2_checkBoundsOffCount_d044e_10 : decode cJ2_checkBoundsOffCount_d044e 10 = .ok (.return_, 1) := by decide +kernel
theorem dJ7_rangeCheck_23922_0 : decode cJ7_rangeCheck_23922 0 = .ok (.iload_n 1, 1) := by decide +kernel
theorem dJ7_rangeCheck_23922_1 : decode cJ7_rangeCheck_23922 1 = .ok (.iload_n 2, 1) := by decide +kernel
theorem dJ7_rangeCheck_23922_2 : decode cJ7_rangeCheck_23922 2 = .ok (.if_icmp .le 44, 3) := by decide +kernel
theorem dJ7_rangeCheck_23922_5 : decode cJ7_rangeCheck_23922 5 = .ok (.new 43, 3) := by decide +kernel
theorem dJ7_rangeCheck_23922_8 : decode cJ7_rangeCheck_23922 8 = .ok (.dup, 1) := by decide +kernel
theorem dJ7_rangeCheck_23922_9 : decode cJ7_rangeCheck_23922 9 = .ok (.new 45, 3) := by decide +kernel
theorem dJ7_rangeCheck_23922_12 : decode cJ7_rangeCheck_23922 12 = .ok (.dup, 1) := by decide +kernel
theorem dJ7_rangeCheck_23922_13 : decode cJ7_rangeCheck_23922 13 = .ok (.invokespecial 47, 3) := by decide +kernel
theorem dJ7_rangeCheck_23922_16 : decode cJ7_rangeCheck_23922 16 = .ok (.ldc 48, 2) := by decide +kernel
theorem dJ7_rangeCheck_23922_18 : decode cJ7_rangeCheck_23922 18 = .ok (.invokevirtual 50, 3) := by decide +kernel
theorem dJ7_rangeCheck_23922_21 : decode cJ7_rangeCheck_23922 21 = .ok (.iload_n 1, 1) := by decide +kernel
theorem dJ7_rangeCheck_23922_22 : decode cJ7_rangeCheck_23922 22 = .ok (.invokevirtual 54, 3) := by decide +kernel
theorem dJ7_rangeCheck_23922_25 : decode cJ7_rangeCheck_23922 25 = .ok (.ldc 57, 2) := by decide +kernel
theorem dJ7_rangeCheck_23922_27 : decode cJ7_rangeCheck_23922 27 = .ok (.invokevirtual 50, 3) := by decide +kernel
theorem dJ7_rangeCheck_23922_30 : decode cJ7_rangeCheck_23922 30 = .ok (.iload_n 2, 1) := by decide +kernel
theorem dJ7_rangeCheck_23922_31 : decode cJ7_rangeCheck_23922 31 = .ok (.invokevirtual 54, 3) := by decide +kernel
theorem dJ7_rangeCheck_23922_34 : decode cJ7_rangeCheck_23922 34 = .ok (.ldc 59, 2) := by decide +kernel
theorem dJ7_rangeCheck_23922_36 : decode cJ7_rangeCheck_23922 36 = .ok (.invokevirtual 50, 3) := by decide +kernel
theorem dJ7_rangeCheck_23922_39 : decode cJ7_rangeCheck_23922 39 = .ok (.invokevirtual 61, 3) := by decide +kernel
theorem dJ7_rangeCheck_23922_42 : decode cJ7_rangeCheck_23922 42 = .ok (.invokespecial 65, 3) := by decide +kernel
theorem dJ7_rangeCheck_23922_45 : decode cJ7_rangeCheck_23922 45 = .ok (.athrow, 1) := by decide +kernel
theorem dJ7_rangeCheck_23922_46 : decode cJ7_rangeCheck_23922 46 = .ok (.iload_n 1, 1) := by decide +kernel
theorem dJ7_rangeCheck_23922_47 : decode cJ7_rangeCheck_23922 47 = .ok (.ifCond .ge 12, 3) := by decide +kernel
theorem dJ7_rangeCheck_23922_50 : decode cJ7_rangeCheck_23922 50 = .ok (.new 68, 3) := by decide +kernel
theorem dJ7_rangeCheck_23922_53 : decode cJ7_rangeCheck_23922 53 = .ok (.dup, 1) := by decide +kernel
theorem dJ7_rangeCheck_23922_54 : decode cJ7_rangeCheck_23922 54 = .ok (.iload_n 1, 1) := by decide +kernel
theorem dJ7_rangeCheck_23922_55 : decode cJ7_rangeCheck_23922 55 = .ok (.invokespecial 70, 3) := by decide +kernel
theorem dJ7_rangeCheck_23922_58 : decode cJ7_rangeCheck_23922 58 = .ok (.athrow, 1) := by decide +kernel
theorem dJ7_rangeCheck_23922_59 : decode cJ7_rangeCheck_23922 59 = .ok (.iload_n 2, 1) := by decide +kernel
theorem dJ7_rangeCheck_23922_60 : decode cJ7_rangeCheck_23922 60 = .ok (.iload_n 0, 1) := by decide +kernel
theorem dJ7_rangeCheck_23922_61 : decode cJ7_rangeCheck_23922 61 = .ok (.if_icmp .le 12, 3) := by decide +kernel
theorem dJ7_rangeCheck_23922_64 : decode cJ7_rangeCheck_23922 64 = .ok (.new 68, 3) := by decide +kernel
theorem dJ7_rangeCheck_23922_67 : decode cJ7_rangeCheck_23922 67 = .ok (.dup, 1) := by decide +kernel
theorem dJ7_rangeCheck_23922_68 : decode cJ7_rangeCheck_23922 68 = .ok (.iload_n 2, 1) := by decide +kernel
theorem dJ7_rangeCheck_23922_69 : decode cJ7_rangeCheck_23922 69 = .ok (.invokespecial 70, 3) := by decide +kernel
theorem dJ7_rangeCheck_23922_72 : decode cJ7_rangeCheck_23922 72 = .ok (.athrow, 1) := by decide +kernel
theorem dJ7_rangeCheck_23922_73 : decode cJ7_rangeCheck_23922 73 = .ok (.return_, 1) := by decide +kernel
theorem dJ7_fill_eb02e_0 : decode cJ7_fill_eb02e 0 = .ok (.aload_n 0, 1) := by decide +kernel
theorem dJ7_fill_eb02e_1 : decode cJ7_fill_eb02e 1 = .ok (.arraylength, 1) := by decide +kernel
theorem dJ7_fill_eb02e_2 : decode cJ7_fill_eb02e 2 = .ok (.iload_n 1, 1) := by decide +kernel
theorem dJ7_fill_eb02e_3 : decode cJ7_fill_eb02e 3 = .ok (.iload_n 2, 1) := by decide +kernel
theorem dJ7_fill_eb02e_4 : decode cJ7_fill_eb02e 4 = .ok (.invokestatic 13, 3) := by decide +kernel
theorem dJ7_fill_eb02e_7 : decode cJ7_fill_eb02e 7 = .ok (.iload_n 1, 1) := by decide +kernel
theorem dJ7_fill_eb02e_8 : decode cJ7_fill_eb02e 8 = .ok (.istore 4, 2) := by decide +kernel
theorem dJ7_fill_eb02e_10 : decode cJ7_fill_eb02e 10 = .ok (.iload 4, 2) := by decide +kernel
theorem dJ7_fill_eb02e_12 : decode cJ7_fill_eb02e 12 = .ok (.iload_n 2, 1) := by decide +kernel
theorem dJ7_fill_eb02e_13 : decode cJ7_fill_eb02e 13 = .ok (.if_icmp .ge 14, 3) := by decide +kernel
theorem dJ7_fill_eb02e_16 : decode cJ7_fill_eb02e 16 = .ok (.aload_n 0, 1) := by decide +kernel
theorem dJ7_fill_eb02e_17 : decode cJ7_fill_eb02e 17 = .ok (.iload 4, 2) := by decide +kernel
theorem dJ7_fill_eb02e_19 : decode cJ7_fill_eb02e 19 = .ok (.iload_n 3, 1) := by decide +kernel
theorem dJ7_fill_eb02e_20 : decode cJ7_fill_eb02e 20 = .ok (.bastore, 1) := by decide +kernel
theorem dJ7_fill_eb02e_21 : decode cJ7_fill_eb02e 21 = .ok (.iinc 4 1, 3) := by decide +kernel
theorem dJ7_fill_eb02e_24 : decode cJ7_fill_eb02e 24 = .ok (.goto (-14), 3) := by decide +kernel
theorem dJ7_fill_eb02e_27 : decode cJ7_fill_eb02e 27 = .ok (.return_, 1) := by decide +kernel
theorem dJ7_copyOf_9075b_0 : decode cJ7_copyOf_9075b 0 = .ok (.iload_n 1, 1) := by decide +kernel
theorem dJ7_copyOf_9075b_1 : decode cJ7_copyOf_9075b 1 = .ok (.aload_n 0, 1) := by decide +kernel
theorem dJ7_copyOf_9075b_2 : decode cJ7_copyOf_9075b 2 = .ok (.arraylength, 1) := by decide +kernel
theorem dJ7_copyOf_9075b_3 : decode cJ7_copyOf_9075b 3 = .ok (.if_icmp .ne 11, 3) := by decide +kernel
theorem dJ7_copyOf_9075b_6 : decode cJ7_copyOf_9075b 6 = .ok (.aload_n 0, 1) := by decide +kernel
theorem dJ7_copyOf_9075b_7 : decode cJ7_copyOf_9075b 7 = .ok (.invokevirtual 310, 3) := by decide +kernel
theorem dJ7_copyOf_9075b_10 : decode cJ7_copyOf_9075b 10 = .ok (.checkcast 311, 3) := by decide +kernel
theorem dJ7_copyOf_9075b_13 : decode cJ7_copyOf_9075b 13 = .ok (.areturn, 1) := by decide +kernel
theorem dJ7_copyOf_9075b_14 : decode cJ7_copyOf_9075b 14 = .ok (.iload_n 1, 1) := by decide +kernel
theorem dJ7_copyOf_9075b_15 : decode cJ7_copyOf_9075b 15 = .ok (.newarray .byte, 2) := by decide +kernel
theorem dJ7_copyOf_9075b_17 : decode cJ7_copyOf_9075b 17 = .ok (.astore_n 2, 1) := by decide +kernel
theorem dJ7_copyOf_9075b_18 : decode cJ7_copyOf_9075b 18 = .ok (.aload_n 0, 1) := by decide +kernel
theorem dJ7_copyOf_9075b_19 : decode cJ7_copyOf_9075b 19 = .ok (.iconst 0, 1) := by decide +kernel
theorem dJ7_copyOf_9075b_20 : decode cJ7_copyOf_9075b 20 = .ok (.aload_n 2, 1) := by decide +kernel
theorem dJ7_copyOf_9075b_21 : decode cJ7_copyOf_9075b 21 = .ok (.iconst 0, 1) := by decide +kernel
theorem dJ7_copyOf_9075b_22 : decode cJ7_copyOf_9075b 22 = .ok (.aload_n 0, 1) := by decide +kernel
theorem dJ7_copyOf_9075b_23 : decode cJ7_copyOf_9075b 23 = .ok (.arraylength, 1) := by decide +kernel
theorem dJ7_copyOf_9075b_24 : decode cJ7_copyOf_9075b 24 = .ok (.iload_n 1, 1) := by decide +kernel
theorem dJ7_copyOf_9075b_25 : decode cJ7_copyOf_9075b 25 = .ok (.invokestatic 304, 3) := by decide +kernel
theorem dJ7_copyOf_9075b_28 : decode cJ7_copyOf_9075b 28 = .ok (.invokestatic 150, 3) := by decide +kernel
theorem dJ7_copyOf_9075b_31 : decode cJ7_copyOf_9075b 31 = .ok (.aload_n 2, 1) := by decide +kernel
theorem dJ7_copyOf_9075b_32 : decode cJ7_copyOf_9075b 32 = .ok (.areturn, 1) := by decide +kernel
theorem dJ7_checkLength_df160_0 : decode cJ7_checkLength_df160 0 = .ok (.iload_n 1, 1) := by decide +kernel
theorem dJ7_checkLength_df160_1 : decode cJ7_checkLength_df160 1 = .ok (.iload_n 0, 1) := by decide +kernel
theorem dJ7_checkLength_df160_2 : decode cJ7_checkLength_df160 2 = .ok (.if_icmp .ge 35, 3) := by decide +kernel
theorem dJ7_checkLength_df160_5 : decode cJ7_checkLength_df160 5 = .ok (.new 43, 3) := by decide +kernel
theorem dJ7_checkLength_df160_8 : decode cJ7_checkLength_df160 8 = .ok (.dup, 1) := by decide +kernel
theorem dJ7_checkLength_df160_9 : decode cJ7_checkLength_df160 9 = .ok (.new 45, 3) := by decide +kernel
theorem dJ7_checkLength_df160_12 : decode cJ7_checkLength_df160 12 = .ok (.dup, 1) := by decide +kernel
theorem dJ7_checkLength_df160_13 : decode cJ7_checkLength_df160 13 = .ok (.invokespecial 47, 3) := by decide +kernel
theorem dJ7_checkLength_df160_16 : decode cJ7_checkLength_df160 16 = .ok (.iload_n 0, 1) := by decide +kernel
theorem dJ7_checkLength_df160_17 : decode cJ7_checkLength_df160 17 = .ok (.invokevirtual 54, 3) := by decide +kernel
theorem dJ7_checkLength_df160_20 : decode cJ7_checkLength_df160 20 = .ok (.ldc_w 337, 3) := by decide +kernel
theorem dJ7_checkLength_df160_23 : decode cJ7_checkLength_df160 23 = .ok (.invokevirtual 50, 3) := by decide +kernel
theorem dJ7_checkLength_df160_26 : decode cJ7_checkLength_df160 26 = .ok (.iload_n 1, 1) := by decide +kernel
theorem dJ7_checkLength_df160_27 : decode cJ7_checkLength_df160 27 = .ok (.invokevirtual 54, 3) := by decide +kernel
theorem dJ7_checkLength_df160_30 : decode cJ7_checkLength_df160 30 = .ok (.invokevirtual 61, 3) := by decide +kernel
theorem dJ7_checkLength_df160_33 : decode cJ7_checkLength_df160 33 = .ok (.invokespecial 65, 3) := by decide +kernel
theorem dJ7_checkLength_df160_36 : decode cJ7_checkLength_df160 36 = .ok (.athrow, 1) := by decide +kernel
theorem dJ7_checkLength_df160_37 : decode cJ7_checkLength_df160 37 = .ok (.return_, 1) := by decide +kernel
theorem dJ7_copyOfRange_39247_0 : decode cJ7_copyOfRange_39247 0 = .ok (.iload_n 1, 1) := by decide +kernel
theorem dJ7_copyOfRange_39247_1 : decode cJ7_copyOfRange_39247 1 = .ok (.ifCond .ne 9, 3) := by decide +kernel
theorem dJ7_copyOfRange_39247_4 : decode cJ7_copyOfRange_39247 4 = .ok (.iload_n 2, 1) := by decide +kernel
theorem dJ7_copyOfRange_39247_5 : decode cJ7_copyOfRange_39247 5 = .ok (.aload_n 0, 1) := by decide +kernel
theorem dJ7_copyOfRange_39247_6 : decode cJ7_copyOfRange_39247 6 = .ok (.arraylength, 1) := by decide +kernel
theorem dJ7_copyOfRange_39247_7 : decode cJ7_copyOfRange_39247 7 = .ok (.if_icmp .eq 10, 3) := by decide +kernel
theorem dJ7_copyOfRange_39247_10 : decode cJ7_copyOfRange_39247 10 = .ok (.aload_n 0, 1) := by decide +kernel
theorem dJ7_copyOfRange_39247_11 : decode cJ7_copyOfRange_39247 11 = .ok (.iload_n 1, 1) := by decide +kernel
theorem dJ7_copyOfRange_39247_12 : decode cJ7_copyOfRange_39247 12 = .ok (.iload_n 2, 1) := by decide +kernel
theorem dJ7_copyOfRange_39247_13 : decode cJ7_copyOfRange_39247 13 = .ok (.invokestatic 339, 3) := by decide +kernel
theorem dJ7_copyOfRange_39247_16 : decode cJ7_copyOfRange_39247 16 = .ok (.areturn, 1) := by decide +kernel
theorem dJ7_copyOfRange_39247_17 : decode cJ7_copyOfRange_39247 17 = .ok (.aload_n 0, 1) := by decide +kernel
theorem dJ7_copyOfRange_39247_18 : decode cJ7_copyOfRange_39247 18 = .ok (.invokevirtual 310, 3) := by decide +kernel
theorem dJ7_copyOfRange_39247_21 : decode cJ7_copyOfRange_39247 21 = .ok (.checkcast 311, 3) := by decide +kernel
theorem dJ7_copyOfRange_39247_24 : decode cJ7_copyOfRange_39247 24 = .ok (.areturn, 1) := by decide +kernel
theorem dJ7_copyOfRangeByte_39247_0 : decode cJ7_copyOfRangeByte_39247 0 = .ok (.iload_n 1, 1) := by decide +kernel
theorem dJ7_copyOfRangeByte_39247_1 : decode cJ7_copyOfRangeByte_39247 1 = .ok (.iload_n 2, 1) := by decide +kernel
theorem dJ7_copyOfRangeByte_39247_2 : decode cJ7_copyOfRangeByte_39247 2 = .ok (.invokestatic 343, 3) := by decide +kernel
theorem dJ7_copyOfRangeByte_39247_5 : decode cJ7_copyOfRangeByte_39247 5 = .ok (.iload_n 2, 1) := by decide +kernel
theorem dJ7_copyOfRangeByte_39247_6 : decode cJ7_copyOfRangeByte_39247 6 = .ok (.iload_n 1, 1) := by decide +kernel
theorem dJ7_copyOfRangeByte_39247_7 : decode cJ7_copyOfRangeByte_39247 7 = .ok (.isub, 1) := by decide +kernel
theorem dJ7_copyOfRangeByte_39247_8 : decode cJ7_copyOfRangeByte_39247 8 = .ok (.istore_n 3, 1) := by decide +kernel
theorem dJ7_copyOfRangeByte_39247_9 : decode cJ7_copyOfRangeByte_39247 9 = .ok (.iload_n 3, 1) := by decide +kernel
theorem dJ7_copyOfRangeByte_39247_10 : decode cJ7_copyOfRangeByte_39247 10 = .ok (.newarray .byte, 2) := by decide +kernel
theorem dJ7_copyOfRangeByte_39247_12 : decode cJ7_copyOfRangeByte_39247 12 = .ok (.astore 4, 2) := by decide +kernel
theorem dJ7_copyOfRangeByte_39247_14 : decode cJ7_copyOfRangeByte_39247 14 = .ok (.aload_n 0, 1) := by decide +kernel
theorem dJ7_copyOfRangeByte_39247_15 : decode cJ7_copyOfRangeByte_39247 15 = .ok (.iload_n 1, 1) := by decide +kernel
theorem dJ7_copyOfRangeByte_39247_16 : decode cJ7_copyOfRangeByte_39247 16 = .ok (.aload 4, 2) := by decide +kernel
theorem dJ7_copyOfRangeByte_39247_18 : decode cJ7_copyOfRangeByte_39247 18 = .ok (.iconst 0, 1) := by decide +kernel
theorem dJ7_copyOfRangeByte_39247_19 : decode cJ7_copyOfRangeByte_39247 19 = .ok (.aload_n 0, 1) := by decide +kernel
theorem dJ7_copyOfRangeByte_39247_20 : decode cJ7_copyOfRangeByte_39247 20 = .ok (.arraylength, 1) := by decide +kernel
theorem dJ7_copyOfRangeByte_39247_21 : decode cJ7_copyOfRangeByte_39247 21 = .ok (.iload_n 1, 1) := by decide +kernel
theorem dJ7_copyOfRangeByte_39247_22 : decode cJ7_copyOfRangeByte_39247 22 = .ok (.isub, 1) := by decide +kernel
theorem dJ7_copyOfRangeByte_39247_23 : decode cJ7_copyOfRangeByte_39247 23 = .ok (.iload_n 3, 1) := by decide +kernel
theorem dJ7_copyOfRangeByte_39247_24 : decode cJ7_copyOfRangeByte_39247 24 = .ok (.invokestatic 304, 3) := by decide +kernel
theorem dJ7_copyOfRangeByte_39247_27 : decode cJ7_copyOfRangeByte_39247 27 = .ok (.invokestatic 150, 3) := by decide +kernel
theorem dJ7_copyOfRangeByte_39247_30 : decode cJ7_copyOfRangeByte_39247 30 = .ok (.aload 4, 2) := by decide +kernel
theorem dJ7_copyOfRangeByte_39247_32 : decode cJ7_copyOfRangeByte_39247 32 = .ok (.areturn, 1) := by decide +kernel
theorem dJ8_newLength_cabcc_0 : decode cJ8_newLength_cabcc 0 = .ok (.iload_n 0, 1) := by decide +kernel
theorem dJ8_newLength_cabcc_1 : decode cJ8_newLength_cabcc 1 = .ok (.iload_n 1, 1) := by decide +kernel
theorem dJ8_newLength_cabcc_2 : decode cJ8_newLength_cabcc 2 = .ok (.iload_n 2, 1) := by decide +kernel
theorem dJ8_newLength_cabcc_3 : decode cJ8_newLength_cabcc 3 = .ok (.invokestatic 194, 3) := by decide +kernel
theorem dJ8_newLength_cabcc_6 : decode cJ8_newLength_cabcc 6 = .ok (.iadd, 1) := by decide +kernel
theorem dJ8_newLength_cabcc_7 : decode cJ8_newLength_cabcc 7 = .ok (.istore_n 3, 1) := by decide +kernel
theorem dJ8_newLength_cabcc_8 : decode cJ8_newLength_cabcc 8 = .ok (.iconst 0, 1) := by decide +kernel
theorem dJ8_newLength_cabcc_9 : decode cJ8_newLength_cabcc 9 = .ok (.iload_n 3, 1) := by decide +kernel
theorem dJ8_newLength_cabcc_10 : decode cJ8_newLength_cabcc 10 = .ok (.if_icmp .ge 11, 3) := by decide +kernel
theorem dJ8_newLength_cabcc_13 : decode cJ8_newLength_cabcc 13 = .ok (.iload_n 3, 1) := by decide +kernel
theorem dJ8_newLength_cabcc_14 : decode cJ8_newLength_cabcc 14 = .ok (.ldc 200, 2) := by decide +kernel
theorem dJ8_newLength_cabcc_16 : decode cJ8_newLength_cabcc 16 = .ok (.if_icmp .gt 5, 3) := by decide +kernel
theorem dJ8_newLength_cabcc_19 : decode cJ8_newLength_cabcc 19 = .ok (.iload_n 3, 1) := by decide +kernel
theorem dJ8_newLength_cabcc_20 : decode cJ8_newLength_cabcc 20 = .ok (.ireturn, 1) := by decide +kernel
theorem dJ8_newLength_cabcc_21 : decode cJ8_newLength_cabcc 21 = .ok (.iload_n 0, 1) := by decide +kernel
theorem dJ8_newLength_cabcc_22 : decode cJ8_newLength_cabcc 22 = .ok (.iload_n 1, 1) := by decide +kernel
theorem dJ8_newLength_cabcc_23 : decode cJ8_newLength_cabcc 23 = .ok (.invokestatic 201, 3) := by decide +kernel
theorem dJ8_newLength_cabcc_26 : decode cJ8_newLength_cabcc 26 = .ok (.ireturn, 1) := by decide +kernel
theorem dJ8_hugeLength_7cf53_0 : decode cJ8_hugeLength_7cf53 0 = .ok (.iload_n 0, 1) := by decide +kernel
theorem dJ8_hugeLength_7cf53_1 : decode cJ8_hugeLength_7cf53 1 = .ok (.iload_n 1, 1) := by decide +kernel
theorem dJ8_hugeLength_7cf53_2 : decode cJ8_hugeLength_7cf53 2 = .ok (.iadd, 1) := by decide +kernel
theorem dJ8_hugeLength_7cf53_3 : decode cJ8_hugeLength_7cf53 3 = .ok (.istore_n 2, 1) := by decide +kernel
theorem dJ8_hugeLength_7cf53_4 : decode cJ8_hugeLength_7cf53 4 = .ok (.iload_n 2, 1) := by decide +kernel
theorem dJ8_hugeLength_7cf53_5 : decode cJ8_hugeLength_7cf53 5 = .ok (.ifCond .ge 44, 3) := by decide +kernel
theorem dJ8_hugeLength_7cf53_8 : decode cJ8_hugeLength_7cf53 8 = .ok (.new 204, 3) := by decide +kernel
theorem dJ8_hugeLength_7cf53_11 : decode cJ8_hugeLength_7cf53 11 = .ok (.dup, 1) := by decide +kernel
theorem dJ8_hugeLength_7cf53_12 : decode cJ8_hugeLength_7cf53 12 = .ok (.new 89, 3) := by decide +kernel
theorem dJ8_hugeLength_7cf53_15 : decode cJ8_hugeLength_7cf53 15 = .ok (.dup, 1) := by decide +kernel
theorem dJ8_hugeLength_7cf53_16 : decode cJ8_hugeLength_7cf53 16 = .ok (.invokespecial 91, 3) := by decide +kernel
theorem dJ8_hugeLength_7cf53_19 : decode cJ8_hugeLength_7cf53 19 = .ok (.ldc 206, 2) := by decide +kernel
theorem dJ8_hugeLength_7cf53_21 : decode cJ8_hugeLength_7cf53 21 = .ok (.invokevirtual 94, 3) := by decide +kernel
theorem dJ8_hugeLength_7cf53_24 : decode cJ8_hugeLength_7cf53 24 = .ok (.iload_n 0, 1) := by decide +kernel
theorem dJ8_hugeLength_7cf53_25 : decode cJ8_hugeLength_7cf53 25 = .ok (.invokevirtual 98, 3) := by decide +kernel
theorem dJ8_hugeLength_7cf53_28 : decode cJ8_hugeLength_7cf53 28 = .ok (.ldc 208, 2) := by decide +kernel
theorem dJ8_hugeLength_7cf53_30 : decode cJ8_hugeLength_7cf53 30 = .ok (.invokevirtual 94, 3) := by decide +kernel
theorem dJ8_hugeLength_7cf53_33 : decode cJ8_hugeLength_7cf53 33 = .ok (.iload_n 1, 1) := by decide +kernel
theorem dJ8_hugeLength_7cf53_34 : decode cJ8_hugeLength_7cf53 34 = .ok (.invokevirtual 98, 3) := by decide +kernel
theorem dJ8_hugeLength_7cf53_37 : decode cJ8_hugeLength_7cf53 37 = .ok (.ldc 210, 2) := by decide +kernel
theorem dJ8_hugeLength_7cf53_39 : decode cJ8_hugeLength_7cf53 39 = .ok (.invokevirtual 94, 3) := by decide +kernel
theorem dJ8_hugeLength_7cf53_42 : decode cJ8_hugeLength_7cf53 42 = .ok (.invokevirtual 101, 3) := by decide +kernel
theorem dJ8_hugeLength_7cf53_45 : decode cJ8_hugeLength_7cf53 45 = .ok (.invokespecial 212, 3) := by decide +kernel
theorem dJ8_hugeLength_7cf53_48 : decode cJ8_hugeLength_7cf53 48 = .ok (.athrow, 1) := by decide +kernel
theorem dJ8_hugeLength_7cf53_49 : decode cJ8_hugeLength_7cf53 49 = .ok (.iload_n 2, 1) := by decide +kernel
theorem dJ8_hugeLength_7cf53_50 : decode cJ8_hugeLength_7cf53 50 = .ok (.ldc 200, 2) := by decide +kernel
theorem dJ8_hugeLength_7cf53_52 : decode cJ8_hugeLength_7cf53 52 = .ok (.if_icmp .gt 6, 3) := by decide +kernel
theorem dJ8_hugeLength_7cf53_55 : decode cJ8_hugeLength_7cf53 55 = .ok (.ldc 200, 2) := by decide +kernel
theorem dJ8_hugeLength_7cf53_57 : decode cJ8_hugeLength_7cf53 57 = .ok (.ireturn, 1) := by decide +kernel
theorem dJ8_hugeLength_7cf53_58 : decode cJ8_hugeLength_7cf53 58 = .ok (.iload_n 2, 1) := by decide +kernel
theorem dJ8_hugeLength_7cf53_59 : decode cJ8_hugeLength_7cf53 59 = .ok (.ireturn, 1) := by decide +kernel
theorem dJ3_checkIndex_8e157_0 : decode cJ3_checkIndex_8e157 0 = .ok (.iload_n 0, 1) := by decide +kernel
theorem dJ3_checkIndex_8e157_1 : decode cJ3_checkIndex_8e157 1 = .ok (.ifCond .lt 8, 3) := by decide +kernel
theorem dJ3_checkIndex_8e157_4 : decode cJ3_checkIndex_8e157 4 = .ok (.iload_n 0, 1) := by decide +kernel
theorem dJ3_checkIndex_8e157_5 : decode cJ3_checkIndex_8e157 5 = .ok (.iload_n 1, 1) := by decide +kernel
theorem dJ3_checkIndex_8e157_6 : decode cJ3_checkIndex_8e157 6 = .ok (.if_icmp .lt 10, 3) := by decide +kernel
theorem dJ3_checkIndex_8e157_9 : decode cJ3_checkIndex_8e157 9 = .ok (.aload_n 2, 1) := by decide +kernel
theorem dJ3_checkIndex_8e157_10 : decode cJ3_checkIndex_8e157 10 = .ok (.iload_n 0, 1) := by decide +kernel
theorem dJ3_checkIndex_8e157_11 : decode cJ3_checkIndex_8e157 11 = .ok (.iload_n 1, 1) := by decide +kernel
theorem dJ3_checkIndex_8e157_12 : decode cJ3_checkIndex_8e157 12 = .ok (.invokestatic 95, 3) := by decide +kernel
theorem dJ3_checkIndex_8e157_15 : decode cJ3_checkIndex_8e157 15 = .ok (.athrow, 1) := by decide +kernel
theorem dJ3_checkIndex_8e157_16 : decode cJ3_checkIndex_8e157 16 = .ok (.iload_n 0, 1) := by decide +kernel
theorem dJ3_checkIndex_8e157_17 : decode cJ3_checkIndex_8e157 17 = .ok (.ireturn, 1) := by decide +kernel
theorem dJ3_checkFromToIndex_8c36e_0 : decode cJ3_checkFromToIndex_8c36e 0 = .ok (.iload_n 0, 1) := by decide +kernel
theorem dJ3_checkFromToIndex_8c36e_1 : decode cJ3_checkFromToIndex_8c36e 1 = .ok (.ifCond .lt 13, 3) := by decide +kernel
theorem dJ3_checkFromToIndex_8c36e_4 : decode cJ3_checkFromToIndex_8c36e 4 = .ok (.iload_n 0, 1) := by decide +kernel
theorem dJ3_checkFromToIndex_8c36e_5 : decode cJ3_checkFromToIndex_8c36e 5 = .ok (.iload_n 1, 1) := by decide +kernel
theorem dJ3_checkFromToIndex_8c36e_6 : decode cJ3_checkFromToIndex_8c36e 6 = .ok (.if_icmp .gt 8, 3) := by decide +kernel
theorem dJ3_checkFromToIndex_8c36e_9 : decode cJ3_checkFromToIndex_8c36e 9 = .ok (.iload_n 1, 1) := by decide +kernel
theorem dJ3_checkFromToIndex_8c36e_10 : decode cJ3_checkFromToIndex_8c36e 10 = .ok (.iload_n 2, 1) := by decide +kernel
theorem dJ3_checkFromToIndex_8c36e_11 : decode cJ3_checkFromToIndex_8c36e 11 = .ok (.if_icmp .le 11, 3) := by decide +kernel
theorem dJ3_checkFromToIndex_8c36e_14 : decode cJ3_checkFromToIndex_8c36e 14 = .ok (.aload_n 3, 1) := by decide +kernel
theorem dJ3_checkFromToIndex_8c36e_15 : decode cJ3_checkFromToIndex_8c36e 15 = .ok (.iload_n 0, 1) := by decide +kernel
theorem dJ3_checkFromToIndex_8c36e_16 : decode cJ3_checkFromToIndex_8c36e 16 = .ok (.iload_n 1, 1) := by decide +kernel
theorem dJ3_checkFromToIndex_8c36e_17 : decode cJ3_checkFromToIndex_8c36e 17 = .ok (.iload_n 2, 1) := by decide +kernel
theorem dJ3_checkFromToIndex_8c36e_18 : decode cJ3_checkFromToIndex_8c36e 18 = .ok (.invokestatic 99, 3) := by decide +kernel
theorem dJ3_checkFromToIndex_8c36e_21 : decode cJ3_checkFromToIndex_8c36e 21 = .ok (.athrow, 1) := by decide +kernel
theorem dJ3_checkFromToIndex_8c36e_22 : decode cJ3_checkFromToIndex_8c36e 22 = .ok (.iload_n 0, 1) := by decide +kernel
theorem dJ3_checkFromToIndex_8c36e_23 : decode cJ3_checkFromToIndex_8c36e 23 = .ok (.ireturn, 1) := by decide +kernel
theorem dJ3_checkFromIndexSize_8c36e_0 : decode cJ3_checkFromIndexSize_8c36e 0 = .ok (.iload_n 2, 1) := by decide +kernel
theorem dJ3_checkFromIndexSize_8c36e_1 : decode cJ3_checkFromIndexSize_8c36e 1 = .ok (.iload_n 0, 1) := by decide +kernel
theorem dJ3_checkFromIndexSize_8c36e_2 : decode cJ3_checkFromIndexSize_8c36e 2 = .ok (.ior, 1) := by decide +kernel
theorem dJ3_checkFromIndexSize_8c36e_3 : decode cJ3_checkFromIndexSize_8c36e 3 = .ok (.iload_n 1, 1) := by decide +kernel
theorem dJ3_checkFromIndexSize_8c36e_4 : decode cJ3_checkFromIndexSize_8c36e 4 = .ok (.ior, 1) := by decide +kernel
theorem dJ3_checkFromIndexSize_8c36e_5 : decode cJ3_checkFromIndexSize_8c36e 5 = .ok (.ifCond .lt 10, 3) := by decide +kernel
theorem dJ3_checkFromIndexSize_8c36e_8 : decode cJ3_checkFromIndexSize_8c36e 8 = .ok (.iload_n 1, 1) := by decide +kernel
theorem dJ3_checkFromIndexSize_8c36e_9 : decode cJ3_checkFromIndexSize_8c36e 9 = .ok (.iload_n 2, 1) := by decide +kernel
theorem dJ3_checkFromIndexSize_8c36e_10 : decode cJ3_checkFromIndexSize_8c36e 10 = .ok (.iload_n 0, 1) := by decide +kernel
theorem dJ3_checkFromIndexSize_8c36e_11 : decode cJ3_checkFromIndexSize_8c36e 11 = .ok (.isub, 1) := by decide +kernel
theorem dJ3_checkFromIndexSize_8c36e_12 : decode cJ3_checkFromIndexSize_8c36e 12 = .ok (.if_icmp .le 11, 3) := by decide +kernel
theorem dJ3_checkFromIndexSize_8c36e_15 : decode cJ3_checkFromIndexSize_8c36e 15 = .ok (.aload_n 3, 1) := by decide +kernel
theorem dJ3_checkFromIndexSize_8c36e_16 : decode cJ3_checkFromIndexSize_8c36e 16 = .ok (.iload_n 0, 1) := by decide +kernel
theorem dJ3_checkFromIndexSize_8c36e_17 : decode cJ3_checkFromIndexSize_8c36e 17 = .ok (.iload_n 1, 1) := by decide +kernel
theorem dJ3_checkFromIndexSize_8c36e_18 : decode cJ3_checkFromIndexSize_8c36e 18 = .ok (.iload_n 2, 1) := by decide +kernel
theorem dJ3_checkFromIndexSize_8c36e_19 : decode cJ3_checkFromIndexSize_8c36e 19 = .ok (.invokestatic 103, 3) := by decide +kernel
theorem dJ3_checkFromIndexSize_8c36e_22 : decode cJ3_checkFromIndexSize_8c36e 22 = .ok (.athrow, 1) := by decide +kernel
theorem dJ3_checkFromIndexSize_8c36e_23 : decode cJ3_checkFromIndexSize_8c36e 23 = .ok (.iload_n 0, 1) := by decide +kernel
theorem dJ3_checkFromIndexSize_8c36e_24 : decode cJ3_checkFromIndexSize_8c36e 24 = .ok (.ireturn, 1) := by decide +kernel
theorem dL_addParty_0 : decode cL_addParty 0 = .ok (.aload_n 2, 1) := by decide +kernel
theorem dL_addParty_1 : decode cL_addParty 1 = .ok (.iconst 0, 1) := by decide +kernel
theorem dL_addParty_2 : decode cL_addParty 2 = .ok (.aload_n 0, 1) := by decide +kernel
theorem dL_addParty_3 : decode cL_addParty 3 = .ok (.iload_n 1, 1) := by decide +kernel
theorem dL_addParty_4 : decode cL_addParty 4 = .ok (.invokevirtual 7, 3) := by decide +kernel
theorem dL_addParty_7 : decode cL_addParty 7 = .ok (.i2l, 1) := by decide +kernel
theorem dL_addParty_8 : decode cL_addParty 8 = .ok (.lastore, 1) := by decide +kernel
theorem dL_addParty_9 : decode cL_addParty 9 = .ok (.goto 9, 3) := by decide +kernel
theorem dL_addParty_12 : decode cL_addParty 12 = .ok (.astore_n 3, 1) := by decide +kernel
theorem dL_addParty_13 : decode cL_addParty 13 = .ok (.iconst 1, 1) := by decide +kernel
theorem dL_addParty_14 : decode cL_addParty 14 = .ok (.ireturn, 1) := by decide +kernel
theorem dL_addParty_15 : decode cL_addParty 15 = .ok (.astore_n 3, 1) := by decide +kernel
theorem dL_addParty_16 : decode cL_addParty 16 = .ok (.iconst 2, 1) := by decide +kernel
theorem dL_addParty_17 : decode cL_addParty 17 = .ok (.ireturn, 1) := by decide +kernel
theorem dL_addParty_18 : decode cL_addParty 18 = .ok (.iconst 0, 1) := by decide +kernel
theorem dL_addParty_19 : decode cL_addParty 19 = .ok (.ireturn, 1) := by decide +kernel
theorem dL_addDuty_0 : decode cL_addDuty 0 = .ok (.aload 8, 2) := by decide +kernel
theorem dL_addDuty_2 : decode cL_addDuty 2 = .ok (.iconst 0, 1) := by decide +kernel
theorem dL_addDuty_3 : decode cL_addDuty 3 = .ok (.aload_n 0, 1) := by decide +kernel
theorem dL_addDuty_4 : decode cL_addDuty 4 = .ok (.iload_n 1, 1) := by decide +kernel
theorem dL_addDuty_5 : decode cL_addDuty 5 = .ok (.iload_n 2, 1) := by decide +kernel
theorem dL_addDuty_6 : decode cL_addDuty 6 = .ok (.iload_n 3, 1) := by decide +kernel
theorem dL_addDuty_7 : decode cL_addDuty 7 = .ok (.iload 4, 2) := by decide +kernel
theorem dL_addDuty_9 : decode cL_addDuty 9 = .ok (.iload 5, 2) := by decide +kernel
theorem dL_addDuty_11 : decode cL_addDuty 11 = .ok (.iload 6, 2) := by decide +kernel
theorem dL_addDuty_13 : decode cL_addDuty 13 = .ok (.iload 7, 2) := by decide +kernel
theorem dL_addDuty_15 : decode cL_addDuty 15 = .ok (.invokevirtual 17, 3) := by decide +kernel
theorem dL_addDuty_18 : decode cL_addDuty 18 = .ok (.i2l, 1) := by decide +kernel
theorem dL_addDuty_19 : decode cL_addDuty 19 = .ok (.lastore, 1) := by decide +kernel
theorem dL_addDuty_20 : decode cL_addDuty 20 = .ok (.goto 15, 3) := by decide +kernel
theorem dL_addDuty_23 : decode cL_addDuty 23 = .ok (.astore 9, 2) := by decide +kernel
theorem dL_addDuty_25 : decode cL_addDuty 25 = .ok (.iconst 1, 1) := by decide +kernel
theorem dL_addDuty_26 : decode cL_addDuty 26 = .ok (.ireturn, 1) := by decide +kernel
theorem dL_addDuty_27 : decode cL_addDuty 27 = .ok (.astore 9, 2) := by decide +kernel
theorem dL_addDuty_29 : decode cL_addDuty 29 = .ok (.iconst 2, 1) := by decide +kernel
theorem dL_addDuty_30 : decode cL_addDuty 30 = .ok (.ireturn, 1) := by decide +kernel
theorem dL_addDuty_31 : decode cL_addDuty 31 = .ok (.astore 9, 2) := by decide +kernel
theorem dL_addDuty_33 : decode cL_addDuty 33 = .ok (.iconst 3, 1) := by decide +kernel
theorem dL_addDuty_34 : decode cL_addDuty 34 = .ok (.ireturn, 1) := by decide +kernel
theorem dL_addDuty_35 : decode cL_addDuty 35 = .ok (.iconst 0, 1) := by decide +kernel
theorem dL_addDuty_36 : decode cL_addDuty 36 = .ok (.ireturn, 1) := by decide +kernel
theorem dL_pay_0 : decode cL_pay 0 = .ok (.aload_n 2, 1) := by decide +kernel
theorem dL_pay_1 : decode cL_pay 1 = .ok (.iconst 0, 1) := by decide +kernel
theorem dL_pay_2 : decode cL_pay 2 = .ok (.aload_n 0, 1) := by decide +kernel
theorem dL_pay_3 : decode cL_pay 3 = .ok (.iload_n 1, 1) := by decide +kernel
theorem dL_pay_4 : decode cL_pay 4 = .ok (.invokevirtual 23, 3) := by decide +kernel
theorem dL_pay_7 : decode cL_pay 7 = .ok (.i2l, 1) := by decide +kernel
theorem dL_pay_8 : decode cL_pay 8 = .ok (.lastore, 1) := by decide +kernel
theorem dL_pay_9 : decode cL_pay 9 = .ok (.goto 9, 3) := by decide +kernel
theorem dL_pay_12 : decode cL_pay 12 = .ok (.astore_n 3, 1) := by decide +kernel
theorem dL_pay_13 : decode cL_pay 13 = .ok (.iconst 1, 1) := by decide +kernel
theorem dL_pay_14 : decode cL_pay 14 = .ok (.ireturn, 1) := by decide +kernel
theorem dL_pay_15 : decode cL_pay 15 = .ok (.astore_n 3, 1) := by decide +kernel
theorem dL_pay_16 : decode cL_pay 16 = .ok (.iconst 2, 1) := by decide +kernel
theorem dL_pay_17 : decode cL_pay 17 = .ok (.ireturn, 1) := by decide +kernel
theorem dL_pay_18 : decode cL_pay 18 = .ok (.iconst 0, 1) := by decide +kernel
theorem dL_pay_19 : decode cL_pay 19 = .ok (.ireturn, 1) := by decide +kernel
theorem dL_release_0 : decode cL_release 0 = .ok (.aload_n 2, 1) := by decide +kernel
theorem dL_release_1 : decode cL_release 1 = .ok (.iconst 0, 1) := by decide +kernel
theorem dL_release_2 : decode cL_release 2 = .ok (.aload_n 0, 1) := by decide +kernel
theorem dL_release_3 : decode cL_release 3 = .ok (.iload_n 1, 1) := by decide +kernel
theorem dL_release_4 : decode cL_release 4 = .ok (.invokevirtual 26, 3) := by decide +kernel
theorem dL_release_7 : decode cL_release 7 = .ok (.i2l, 1) := by decide +kernel
theorem dL_release_8 : decode cL_release 8 = .ok (.lastore, 1) := by decide +kernel
theorem dL_release_9 : decode cL_release 9 = .ok (.goto 9, 3) := by decide +kernel
theorem dL_release_12 : decode cL_release 12 = .ok (.astore_n 3, 1) := by decide +kernel
theorem dL_release_13 : decode cL_release 13 = .ok (.iconst 1, 1) := by decide +kernel
theorem dL_release_14 : decode cL_release 14 = .ok (.ireturn, 1) := by decide +kernel
theorem dL_release_15 : decode cL_release 15 = .ok (.astore_n 3, 1) := by decide +kernel
theorem dL_release_16 : decode cL_release 16 = .ok (.iconst 2, 1) := by decide +kernel
theorem dL_release_17 : decode cL_release 17 = .ok (.ireturn, 1) := by decide +kernel
theorem dL_release_18 : decode cL_release 18 = .ok (.iconst 0, 1) := by decide +kernel
theorem dL_release_19 : decode cL_release 19 = .ok (.ireturn, 1) := by decide +kernel
theorem dL_stop_0 : decode cL_stop 0 = .ok (.aload_n 3, 1) := by decide +kernel
theorem dL_stop_1 : decode cL_stop 1 = .ok (.iconst 0, 1) := by decide +kernel
theorem dL_stop_2 : decode cL_stop 2 = .ok (.aload_n 0, 1) := by decide +kernel
theorem dL_stop_3 : decode cL_stop 3 = .ok (.iload_n 1, 1) := by decide +kernel
theorem dL_stop_4 : decode cL_stop 4 = .ok (.iload_n 2, 1) := by decide +kernel
theorem dL_stop_5 : decode cL_stop 5 = .ok (.invokevirtual 29, 3) := by decide +kernel
theorem dL_stop_8 : decode cL_stop 8 = .ok (.i2l, 1) := by decide +kernel
theorem dL_stop_9 : decode cL_stop 9 = .ok (.lastore, 1) := by decide +kernel
theorem dL_stop_10 : decode cL_stop 10 = .ok (.goto 15, 3) := by decide +kernel
theorem dL_stop_13 : decode cL_stop 13 = .ok (.astore 4, 2) := by decide +kernel
theorem dL_stop_15 : decode cL_stop 15 = .ok (.iconst 1, 1) := by decide +kernel
theorem dL_stop_16 : decode cL_stop 16 = .ok (.ireturn, 1) := by decide +kernel
theorem dL_stop_17 : decode cL_stop 17 = .ok (.astore 4, 2) := by decide +kernel
theorem dL_stop_19 : decode cL_stop 19 = .ok (.iconst 2, 1) := by decide +kernel
theorem dL_stop_20 : decode cL_stop 20 = .ok (.ireturn, 1) := by decide +kernel
theorem dL_stop_21 : decode cL_stop 21 = .ok (.astore 4, 2) := by decide +kernel
theorem dL_stop_23 : decode cL_stop 23 = .ok (.iconst 3, 1) := by decide +kernel
theorem dL_stop_24 : decode cL_stop 24 = .ok (.ireturn, 1) := by decide +kernel
theorem dL_stop_25 : decode cL_stop 25 = .ok (.iconst 0, 1) := by decide +kernel
theorem dL_stop_26 : decode cL_stop 26 = .ok (.ireturn, 1) := by decide +kernel
theorem dL_give_0 : decode cL_give 0 = .ok (.aload_n 3, 1) := by decide +kernel
theorem dL_give_1 : decode cL_give 1 = .ok (.iconst 0, 1) := by decide +kernel
theorem dL_give_2 : decode cL_give 2 = .ok (.aload_n 0, 1) := by decide +kernel
theorem dL_give_3 : decode cL_give 3 = .ok (.iload_n 1, 1) := by decide +kernel
theorem dL_give_4 : decode cL_give 4 = .ok (.iload_n 2, 1) := by decide +kernel
theorem dL_give_5 : decode cL_give 5 = .ok (.invokevirtual 33, 3) := by decide +kernel
theorem dL_give_8 : decode cL_give 8 = .ok (.i2l, 1) := by decide +kernel
theorem dL_give_9 : decode cL_give 9 = .ok (.lastore, 1) := by decide +kernel
theorem dL_give_10 : decode cL_give 10 = .ok (.goto 11, 3) := by decide +kernel
theorem dL_give_13 : decode cL_give 13 = .ok (.astore 4, 2) := by decide +kernel
theorem dL_give_15 : decode cL_give 15 = .ok (.iconst 1, 1) := by decide +kernel
theorem dL_give_16 : decode cL_give 16 = .ok (.ireturn, 1) := by decide +kernel
theorem dL_give_17 : decode cL_give 17 = .ok (.astore 4, 2) := by decide +kernel
theorem dL_give_19 : decode cL_give 19 = .ok (.iconst 2, 1) := by decide +kernel
theorem dL_give_20 : decode cL_give 20 = .ok (.ireturn, 1) := by decide +kernel
theorem dL_give_21 : decode cL_give 21 = .ok (.iconst 0, 1) := by decide +kernel
theorem dL_give_22 : decode cL_give 22 = .ok (.ireturn, 1) := by decide +kernel
theorem dL_pass_0 : decode cL_pass 0 = .ok (.aload_n 2, 1) := by decide +kernel
theorem dL_pass_1 : decode cL_pass 1 = .ok (.iconst 0, 1) := by decide +kernel
theorem dL_pass_2 : decode cL_pass 2 = .ok (.aload_n 0, 1) := by decide +kernel
theorem dL_pass_3 : decode cL_pass 3 = .ok (.iload_n 1, 1) := by decide +kernel
theorem dL_pass_4 : decode cL_pass 4 = .ok (.invokevirtual 36, 3) := by decide +kernel
theorem dL_pass_7 : decode cL_pass 7 = .ok (.i2l, 1) := by decide +kernel
theorem dL_pass_8 : decode cL_pass 8 = .ok (.lastore, 1) := by decide +kernel
theorem dL_pass_9 : decode cL_pass 9 = .ok (.goto 6, 3) := by decide +kernel
theorem dL_pass_12 : decode cL_pass 12 = .ok (.astore_n 3, 1) := by decide +kernel
theorem dL_pass_13 : decode cL_pass 13 = .ok (.iconst 1, 1) := by decide +kernel
theorem dL_pass_14 : decode cL_pass 14 = .ok (.ireturn, 1) := by decide +kernel
theorem dL_pass_15 : decode cL_pass 15 = .ok (.iconst 0, 1) := by decide +kernel
theorem dL_pass_16 : decode cL_pass 16 = .ok (.ireturn, 1) := by decide +kernel
theorem dL_inState_0 : decode cL_inState 0 = .ok (.aload_n 2, 1) := by decide +kernel
theorem dL_inState_1 : decode cL_inState 1 = .ok (.iconst 0, 1) := by decide +kernel
theorem dL_inState_2 : decode cL_inState 2 = .ok (.aload_n 0, 1) := by decide +kernel
theorem dL_inState_3 : decode cL_inState 3 = .ok (.iload_n 1, 1) := by decide +kernel
theorem dL_inState_4 : decode cL_inState 4 = .ok (.invokevirtual 39, 3) := by decide +kernel
theorem dL_inState_7 : decode cL_inState 7 = .ok (.i2l, 1) := by decide +kernel
theorem dL_inState_8 : decode cL_inState 8 = .ok (.lastore, 1) := by decide +kernel
theorem dL_inState_9 : decode cL_inState 9 = .ok (.goto 6, 3) := by decide +kernel
theorem dL_inState_12 : decode cL_inState 12 = .ok (.astore_n 3, 1) := by decide +kernel
theorem dL_inState_13 : decode cL_inState 13 = .ok (.iconst 1, 1) := by decide +kernel
theorem dL_inState_14 : decode cL_inState 14 = .ok (.ireturn, 1) := by decide +kernel
theorem dL_inState_15 : decode cL_inState 15 = .ok (.iconst 0, 1) := by decide +kernel
theorem dL_inState_16 : decode cL_inState 16 = .ok (.ireturn, 1) := by decide +kernel
theorem dL_purseOf_0 : decode cL_purseOf 0 = .ok (.aload_n 2, 1) := by decide +kernel
theorem dL_purseOf_1 : decode cL_purseOf 1 = .ok (.iconst 0, 1) := by decide +kernel
theorem dL_purseOf_2 : decode cL_purseOf 2 = .ok (.aload_n 0, 1) := by decide +kernel
theorem dL_purseOf_3 : decode cL_purseOf 3 = .ok (.iload_n 1, 1) := by decide +kernel
theorem dL_purseOf_4 : decode cL_purseOf 4 = .ok (.invokevirtual 42, 3) := by decide +kernel
theorem dL_purseOf_7 : decode cL_purseOf 7 = .ok (.i2l, 1) := by decide +kernel
theorem dL_purseOf_8 : decode cL_purseOf 8 = .ok (.lastore, 1) := by decide +kernel
theorem dL_purseOf_9 : decode cL_purseOf 9 = .ok (.goto 6, 3) := by decide +kernel
theorem dL_purseOf_12 : decode cL_purseOf 12 = .ok (.astore_n 3, 1) := by decide +kernel
theorem dL_purseOf_13 : decode cL_purseOf 13 = .ok (.iconst 1, 1) := by decide +kernel
theorem dL_purseOf_14 : decode cL_purseOf 14 = .ok (.ireturn, 1) := by decide +kernel
theorem dL_purseOf_15 : decode cL_purseOf 15 = .ok (.iconst 0, 1) := by decide +kernel
theorem dL_purseOf_16 : decode cL_purseOf 16 = .ok (.ireturn, 1) := by decide +kernel
theorem dL_stateOf_0 : decode cL_stateOf 0 = .ok (.aload_n 2, 1) := by decide +kernel
theorem dL_stateOf_1 : decode cL_stateOf 1 = .ok (.iconst 0, 1) := by decide +kernel
theorem dL_stateOf_2 : decode cL_stateOf 2 = .ok (.aload_n 0, 1) := by decide +kernel
theorem dL_stateOf_3 : decode cL_stateOf 3 = .ok (.iload_n 1, 1) := by decide +kernel
theorem dL_stateOf_4 : decode cL_stateOf 4 = .ok (.invokevirtual 45, 3) := by decide +kernel
theorem dL_stateOf_7 : decode cL_stateOf 7 = .ok (.i2l, 1) := by decide +kernel
theorem dL_stateOf_8 : decode cL_stateOf 8 = .ok (.lastore, 1) := by decide +kernel
theorem dL_stateOf_9 : decode cL_stateOf 9 = .ok (.goto 6, 3) := by decide +kernel
theorem dL_stateOf_12 : decode cL_stateOf 12 = .ok (.astore_n 3, 1) := by decide +kernel
theorem dL_stateOf_13 : decode cL_stateOf 13 = .ok (.iconst 1, 1) := by decide +kernel
theorem dL_stateOf_14 : decode cL_stateOf 14 = .ok (.ireturn, 1) := by decide +kernel
theorem dL_stateOf_15 : decode cL_stateOf 15 = .ok (.iconst 0, 1) := by decide +kernel
theorem dL_stateOf_16 : decode cL_stateOf 16 = .ok (.ireturn, 1) := by decide +kernel
theorem dL_daysLeft_0 : decode cL_daysLeft 0 = .ok (.aload_n 2, 1) := by decide +kernel
theorem dL_daysLeft_1 : decode cL_daysLeft 1 = .ok (.iconst 0, 1) := by decide +kernel
theorem dL_daysLeft_2 : decode cL_daysLeft 2 = .ok (.aload_n 0, 1) := by decide +kernel
theorem dL_daysLeft_3 : decode cL_daysLeft 3 = .ok (.iload_n 1, 1) := by decide +kernel
theorem dL_daysLeft_4 : decode cL_daysLeft 4 = .ok (.invokevirtual 48, 3) := by decide +kernel
theorem dL_daysLeft_7 : decode cL_daysLeft 7 = .ok (.i2l, 1) := by decide +kernel
theorem dL_daysLeft_8 : decode cL_daysLeft 8 = .ok (.lastore, 1) := by decide +kernel
theorem dL_daysLeft_9 : decode cL_daysLeft 9 = .ok (.goto 6, 3) := by decide +kernel
theorem dL_daysLeft_12 : decode cL_daysLeft 12 = .ok (.astore_n 3, 1) := by decide +kernel
theorem dL_daysLeft_13 : decode cL_daysLeft 13 = .ok (.iconst 1, 1) := by decide +kernel
theorem dL_daysLeft_14 : decode cL_daysLeft 14 = .ok (.ireturn, 1) := by decide +kernel
theorem dL_daysLeft_15 : decode cL_daysLeft 15 = .ok (.iconst 0, 1) := by decide +kernel
theorem dL_daysLeft_16 : decode cL_daysLeft 16 = .ok (.ireturn, 1) := by decide +kernel
theorem dL_stoppedFor_0 : decode cL_stoppedFor 0 = .ok (.aload_n 2, 1) := by decide +kernel
theorem dL_stoppedFor_1 : decode cL_stoppedFor 1 = .ok (.iconst 0, 1) := by decide +kernel
theorem dL_stoppedFor_2 : decode cL_stoppedFor 2 = .ok (.aload_n 0, 1) := by decide +kernel
theorem dL_stoppedFor_3 : decode cL_stoppedFor 3 = .ok (.iload_n 1, 1) := by decide +kernel
theorem dL_stoppedFor_4 : decode cL_stoppedFor 4 = .ok (.invokevirtual 51, 3) := by decide +kernel
theorem dL_stoppedFor_7 : decode cL_stoppedFor 7 = .ok (.i2l, 1) := by decide +kernel
theorem dL_stoppedFor_8 : decode cL_stoppedFor 8 = .ok (.lastore, 1) := by decide +kernel
theorem dL_stoppedFor_9 : decode cL_stoppedFor 9 = .ok (.goto 6, 3) := by decide +kernel
theorem dL_stoppedFor_12 : decode cL_stoppedFor 12 = .ok (.astore_n 3, 1) := by decide +kernel
theorem dL_stoppedFor_13 : decode cL_stoppedFor 13 = .ok (.iconst 1, 1) := by decide +kernel
theorem dL_stoppedFor_14 : decode cL_stoppedFor 14 = .ok (.ireturn, 1) := by decide +kernel
theorem dL_stoppedFor_15 : decode cL_stoppedFor 15 = .ok (.iconst 0, 1) := by decide +kernel
theorem dL_stoppedFor_16 : decode cL_stoppedFor 16 = .ok (.ireturn, 1) := by decide +kernel
theorem dL_priceOf_0 : decode cL_priceOf 0 = .ok (.aload_n 2, 1) := by decide +kernel
theorem dL_priceOf_1 : decode cL_priceOf 1 = .ok (.iconst 0, 1) := by decide +kernel
theorem dL_priceOf_2 : decode cL_priceOf 2 = .ok (.aload_n 0, 1) := by decide +kernel
theorem dL_priceOf_3 : decode cL_priceOf 3 = .ok (.iload_n 1, 1) := by decide +kernel
theorem dL_priceOf_4 : decode cL_priceOf 4 = .ok (.invokevirtual 54, 3) := by decide +kernel
theorem dL_priceOf_7 : decode cL_priceOf 7 = .ok (.i2l, 1) := by decide +kernel
theorem dL_priceOf_8 : decode cL_priceOf 8 = .ok (.lastore, 1) := by decide +kernel
theorem dL_priceOf_9 : decode cL_priceOf 9 = .ok (.goto 6, 3) := by decide +kernel
theorem dL_priceOf_12 : decode cL_priceOf 12 = .ok (.astore_n 3, 1) := by decide +kernel
theorem dL_priceOf_13 : decode cL_priceOf 13 = .ok (.iconst 1, 1) := by decide +kernel
theorem dL_priceOf_14 : decode cL_priceOf 14 = .ok (.ireturn, 1) := by decide +kernel
theorem dL_priceOf_15 : decode cL_priceOf 15 = .ok (.iconst 0, 1) := by decide +kernel
theorem dL_priceOf_16 : decode cL_priceOf 16 = .ok (.ireturn, 1) := by decide +kernel
theorem dL_hanging_0 : decode cL_hanging 0 = .ok (.aload_n 2, 1) := by decide +kernel
theorem dL_hanging_1 : decode cL_hanging 1 = .ok (.iconst 0, 1) := by decide +kernel
theorem dL_hanging_2 : decode cL_hanging 2 = .ok (.aload_n 0, 1) := by decide +kernel
theorem dL_hanging_3 : decode cL_hanging 3 = .ok (.iload_n 1, 1) := by decide +kernel
theorem dL_hanging_4 : decode cL_hanging 4 = .ok (.invokevirtual 57, 3) := by decide +kernel
theorem dL_hanging_7 : decode cL_hanging 7 = .ok (.i2l, 1) := by decide +kernel
theorem dL_hanging_8 : decode cL_hanging 8 = .ok (.lastore, 1) := by decide +kernel
theorem dL_hanging_9 : decode cL_hanging 9 = .ok (.goto 6, 3) := by decide +kernel
theorem dL_hanging_12 : decode cL_hanging 12 = .ok (.astore_n 3, 1) := by decide +kernel
theorem dL_hanging_13 : decode cL_hanging 13 = .ok (.iconst 1, 1) := by decide +kernel
theorem dL_hanging_14 : decode cL_hanging 14 = .ok (.ireturn, 1) := by decide +kernel
theorem dL_hanging_15 : decode cL_hanging 15 = .ok (.iconst 0, 1) := by decide +kernel
theorem dL_hanging_16 : decode cL_hanging 16 = .ok (.ireturn, 1) := by decide +kernel
theorem dL_depthOf_0 : decode cL_depthOf 0 = .ok (.aload_n 2, 1) := by decide +kernel
theorem dL_depthOf_1 : decode cL_depthOf 1 = .ok (.iconst 0, 1) := by decide +kernel
theorem dL_depthOf_2 : decode cL_depthOf 2 = .ok (.aload_n 0, 1) := by decide +kernel
theorem dL_depthOf_3 : decode cL_depthOf 3 = .ok (.iload_n 1, 1) := by decide +kernel
theorem dL_depthOf_4 : decode cL_depthOf 4 = .ok (.invokevirtual 60, 3) := by decide +kernel
theorem dL_depthOf_7 : decode cL_depthOf 7 = .ok (.i2l, 1) := by decide +kernel
theorem dL_depthOf_8 : decode cL_depthOf 8 = .ok (.lastore, 1) := by decide +kernel
theorem dL_depthOf_9 : decode cL_depthOf 9 = .ok (.goto 6, 3) := by decide +kernel
theorem dL_depthOf_12 : decode cL_depthOf 12 = .ok (.astore_n 3, 1) := by decide +kernel
theorem dL_depthOf_13 : decode cL_depthOf 13 = .ok (.iconst 1, 1) := by decide +kernel
theorem dL_depthOf_14 : decode cL_depthOf 14 = .ok (.ireturn, 1) := by decide +kernel
theorem dL_depthOf_15 : decode cL_depthOf 15 = .ok (.iconst 0, 1) := by decide +kernel
theorem dL_depthOf_16 : decode cL_depthOf 16 = .ok (.ireturn, 1) := by decide +kernel
theorem dL_textLength_0 : decode cL_textLength 0 = .ok (.aload_n 2, 1) := by decide +kernel
theorem dL_textLength_1 : decode cL_textLength 1 = .ok (.iconst 0, 1) := by decide +kernel
theorem dL_textLength_2 : decode cL_textLength 2 = .ok (.aload_n 0, 1) := by decide +kernel
theorem dL_textLength_3 : decode cL_textLength 3 = .ok (.iload_n 1, 1) := by decide +kernel
theorem dL_textLength_4 : decode cL_textLength 4 = .ok (.invokevirtual 63, 3) := by decide +kernel
theorem dL_textLength_7 : decode cL_textLength 7 = .ok (.i2l, 1) := by decide +kernel
theorem dL_textLength_8 : decode cL_textLength 8 = .ok (.lastore, 1) := by decide +kernel
theorem dL_textLength_9 : decode cL_textLength 9 = .ok (.goto 6, 3) := by decide +kernel
theorem dL_textLength_12 : decode cL_textLength 12 = .ok (.astore_n 3, 1) := by decide +kernel
theorem dL_textLength_13 : decode cL_textLength 13 = .ok (.iconst 1, 1) := by decide +kernel
theorem dL_textLength_14 : decode cL_textLength 14 = .ok (.ireturn, 1) := by decide +kernel
theorem dL_textLength_15 : decode cL_textLength 15 = .ok (.iconst 0, 1) := by decide +kernel
theorem dL_textLength_16 : decode cL_textLength 16 = .ok (.ireturn, 1) := by decide +kernel
theorem dL_sealOf_0 : decode cL_sealOf 0 = .ok (.aload_n 2, 1) := by decide +kernel
theorem dL_sealOf_1 : decode cL_sealOf 1 = .ok (.iconst 0, 1) := by decide +kernel
theorem dL_sealOf_2 : decode cL_sealOf 2 = .ok (.aload_n 0, 1) := by decide +kernel
theorem dL_sealOf_3 : decode cL_sealOf 3 = .ok (.iload_n 1, 1) := by decide +kernel
theorem dL_sealOf_4 : decode cL_sealOf 4 = .ok (.invokevirtual 66, 3) := by decide +kernel
theorem dL_sealOf_7 : decode cL_sealOf 7 = .ok (.i2l, 1) := by decide +kernel
theorem dL_sealOf_8 : decode cL_sealOf 8 = .ok (.lastore, 1) := by decide +kernel
theorem dL_sealOf_9 : decode cL_sealOf 9 = .ok (.goto 6, 3) := by decide +kernel
theorem dL_sealOf_12 : decode cL_sealOf 12 = .ok (.astore_n 3, 1) := by decide +kernel
theorem dL_sealOf_13 : decode cL_sealOf 13 = .ok (.iconst 1, 1) := by decide +kernel
theorem dL_sealOf_14 : decode cL_sealOf 14 = .ok (.ireturn, 1) := by decide +kernel
theorem dL_sealOf_15 : decode cL_sealOf 15 = .ok (.iconst 0, 1) := by decide +kernel
theorem dL_sealOf_16 : decode cL_sealOf 16 = .ok (.ireturn, 1) := by decide +kernel
theorem dL_owes_0 : decode cL_owes 0 = .ok (.aload_n 2, 1) := by decide +kernel
theorem dL_owes_1 : decode cL_owes 1 = .ok (.iconst 0, 1) := by decide +kernel
theorem dL_owes_2 : decode cL_owes 2 = .ok (.aload_n 0, 1) := by decide +kernel
theorem dL_owes_3 : decode cL_owes 3 = .ok (.iload_n 1, 1) := by decide +kernel
theorem dL_owes_4 : decode cL_owes 4 = .ok (.invokevirtual 69, 3) := by decide +kernel
theorem dL_owes_7 : decode cL_owes 7 = .ok (.i2l, 1) := by decide +kernel
theorem dL_owes_8 : decode cL_owes 8 = .ok (.lastore, 1) := by decide +kernel
theorem dL_owes_9 : decode cL_owes 9 = .ok (.goto 6, 3) := by decide +kernel
theorem dL_owes_12 : decode cL_owes 12 = .ok (.astore_n 3, 1) := by decide +kernel
theorem dL_owes_13 : decode cL_owes 13 = .ok (.iconst 1, 1) := by decide +kernel
theorem dL_owes_14 : decode cL_owes 14 = .ok (.ireturn, 1) := by decide +kernel
theorem dL_owes_15 : decode cL_owes 15 = .ok (.iconst 0, 1) := by decide +kernel
theorem dL_owes_16 : decode cL_owes 16 = .ok (.ireturn, 1) := by decide +kernel
theorem dL_balance_0 : decode cL_balance 0 = .ok (.aload_n 3, 1) := by decide +kernel
theorem dL_balance_1 : decode cL_balance 1 = .ok (.iconst 0, 1) := by decide +kernel
theorem dL_balance_2 : decode cL_balance 2 = .ok (.aload_n 0, 1) := by decide +kernel
theorem dL_balance_3 : decode cL_balance 3 = .ok (.iload_n 1, 1) := by decide +kernel
theorem dL_balance_4 : decode cL_balance 4 = .ok (.iload_n 2, 1) := by decide +kernel
theorem dL_balance_5 : decode cL_balance 5 = .ok (.invokevirtual 72, 3) := by decide +kernel
theorem dL_balance_8 : decode cL_balance 8 = .ok (.i2l, 1) := by decide +kernel
theorem dL_balance_9 : decode cL_balance 9 = .ok (.lastore, 1) := by decide +kernel
theorem dL_balance_10 : decode cL_balance 10 = .ok (.goto 7, 3) := by decide +kernel
theorem dL_balance_13 : decode cL_balance 13 = .ok (.astore 4, 2) := by decide +kernel
theorem dL_balance_15 : decode cL_balance 15 = .ok (.iconst 1, 1) := by decide +kernel
theorem dL_balance_16 : decode cL_balance 16 = .ok (.ireturn, 1) := by decide +kernel
theorem dL_balance_17 : decode cL_balance 17 = .ok (.iconst 0, 1) := by decide +kernel
theorem dL_balance_18 : decode cL_balance 18 = .ok (.ireturn, 1) := by decide +kernel
theorem dL_daysUntilFailed_0 : decode cL_daysUntilFailed 0 = .ok (.aload_n 2, 1) := by decide +kernel
theorem dL_daysUntilFailed_1 : decode cL_daysUntilFailed 1 = .ok (.iconst 0, 1) := by decide +kernel
theorem dL_daysUntilFailed_2 : decode cL_daysUntilFailed 2 = .ok (.aload_n 0, 1) := by decide +kernel
theorem dL_daysUntilFailed_3 : decode cL_daysUntilFailed 3 = .ok (.iload_n 1, 1) := by decide +kernel
theorem dL_daysUntilFailed_4 : decode cL_daysUntilFailed 4 = .ok (.invokevirtual 75, 3) := by decide +kernel
theorem dL_daysUntilFailed_7 : decode cL_daysUntilFailed 7 = .ok (.i2l, 1) := by decide +kernel
theorem dL_daysUntilFailed_8 : decode cL_daysUntilFailed 8 = .ok (.lastore, 1) := by decide +kernel
theorem dL_daysUntilFailed_9 : decode cL_daysUntilFailed 9 = .ok (.goto 6, 3) := by decide +kernel
theorem dL_daysUntilFailed_12 : decode cL_daysUntilFailed 12 = .ok (.astore_n 3, 1) := by decide +kernel
theorem dL_daysUntilFailed_13 : decode cL_daysUntilFailed 13 = .ok (.iconst 1, 1) := by decide +kernel
theorem dL_daysUntilFailed_14 : decode cL_daysUntilFailed 14 = .ok (.ireturn, 1) := by decide +kernel
theorem dL_daysUntilFailed_15 : decode cL_daysUntilFailed 15 = .ok (.iconst 0, 1) := by decide +kernel
theorem dL_daysUntilFailed_16 : decode cL_daysUntilFailed 16 = .ok (.ireturn, 1) := by decide +kernel
theorem dL_purseIn_0 : decode cL_purseIn 0 = .ok (.aload_n 3, 1) := by decide +kernel
theorem dL_purseIn_1 : decode cL_purseIn 1 = .ok (.iconst 0, 1) := by decide +kernel
theorem dL_purseIn_2 : decode cL_purseIn 2 = .ok (.aload_n 0, 1) := by decide +kernel
theorem dL_purseIn_3 : decode cL_purseIn 3 = .ok (.iload_n 1, 1) := by decide +kernel
theorem dL_purseIn_4 : decode cL_purseIn 4 = .ok (.iload_n 2, 1) := by decide +kernel
theorem dL_purseIn_5 : decode cL_purseIn 5 = .ok (.invokevirtual 78, 3) := by decide +kernel
theorem dL_purseIn_8 : decode cL_purseIn 8 = .ok (.i2l, 1) := by decide +kernel
theorem dL_purseIn_9 : decode cL_purseIn 9 = .ok (.lastore, 1) := by decide +kernel
theorem dL_purseIn_10 : decode cL_purseIn 10 = .ok (.goto 11, 3) := by decide +kernel
theorem dL_purseIn_13 : decode cL_purseIn 13 = .ok (.astore 4, 2) := by decide +kernel
theorem dL_purseIn_15 : decode cL_purseIn 15 = .ok (.iconst 1, 1) := by decide +kernel
theorem dL_purseIn_16 : decode cL_purseIn 16 = .ok (.ireturn, 1) := by decide +kernel
theorem dL_purseIn_17 : decode cL_purseIn 17 = .ok (.astore 4, 2) := by decide +kernel
theorem dL_purseIn_19 : decode cL_purseIn 19 = .ok (.iconst 2, 1) := by decide +kernel
theorem dL_purseIn_20 : decode cL_purseIn 20 = .ok (.ireturn, 1) := by decide +kernel
theorem dL_purseIn_21 : decode cL_purseIn 21 = .ok (.iconst 0, 1) := by decide +kernel
theorem dL_purseIn_22 : decode cL_purseIn 22 = .ok (.ireturn, 1) := by decide +kernel
theorem dL_bestToPay_0 : decode cL_bestToPay 0 = .ok (.aload_n 2, 1) := by decide +kernel
theorem dL_bestToPay_1 : decode cL_bestToPay 1 = .ok (.iconst 0, 1) := by decide +kernel
theorem dL_bestToPay_2 : decode cL_bestToPay 2 = .ok (.aload_n 0, 1) := by decide +kernel
theorem dL_bestToPay_3 : decode cL_bestToPay 3 = .ok (.iload_n 1, 1) := by decide +kernel
theorem dL_bestToPay_4 : decode cL_bestToPay 4 = .ok (.invokevirtual 81, 3) := by decide +kernel
theorem dL_bestToPay_7 : decode cL_bestToPay 7 = .ok (.i2l, 1) := by decide +kernel
theorem dL_bestToPay_8 : decode cL_bestToPay 8 = .ok (.lastore, 1) := by decide +kernel
theorem dL_bestToPay_9 : decode cL_bestToPay 9 = .ok (.goto 6, 3) := by decide +kernel
theorem dL_bestToPay_12 : decode cL_bestToPay 12 = .ok (.astore_n 3, 1) := by decide +kernel
theorem dL_bestToPay_13 : decode cL_bestToPay 13 = .ok (.iconst 1, 1) := by decide +kernel
theorem dL_bestToPay_14 : decode cL_bestToPay 14 = .ok (.ireturn, 1) := by decide +kernel
theorem dL_bestToPay_15 : decode cL_bestToPay 15 = .ok (.iconst 0, 1) := by decide +kernel
theorem dL_bestToPay_16 : decode cL_bestToPay 16 = .ok (.ireturn, 1) := by decide +kernel
theorem dL_law_0 : decode cL_law 0 = .ok (.new 8, 3) := by decide +kernel
theorem dL_law_3 : decode cL_law 3 = .ok (.dup, 1) := by decide +kernel
theorem dL_law_4 : decode cL_law 4 = .ok (.invokespecial 84, 3) := by decide +kernel
theorem dL_law_7 : decode cL_law 7 = .ok (.astore_n 1, 1) := by decide +kernel
theorem dL_law_8 : decode cL_law 8 = .ok (.new 85, 3) := by decide +kernel
theorem dL_law_11 : decode cL_law 11 = .ok (.dup, 1) := by decide +kernel
theorem dL_law_12 : decode cL_law 12 = .ok (.invokespecial 87, 3) := by decide +kernel
theorem dL_law_15 : decode cL_law 15 = .ok (.astore_n 2, 1) := by decide +kernel
theorem dL_law_16 : decode cL_law 16 = .ok (.iconst 1, 1) := by decide +kernel
theorem dL_law_17 : decode cL_law 17 = .ok (.newarray .long, 2) := by decide +kernel
theorem dL_law_19 : decode cL_law 19 = .ok (.astore_n 3, 1) := by decide +kernel
theorem dL_law_20 : decode cL_law 20 = .ok (.iconst 0, 1) := by decide +kernel
theorem dL_law_21 : decode cL_law 21 = .ok (.istore 4, 2) := by decide +kernel
theorem dL_law_23 : decode cL_law 23 = .ok (.iload 4, 2) := by decide +kernel
theorem dL_law_25 : decode cL_law 25 = .ok (.aload_n 0, 1) := by decide +kernel
theorem dL_law_26 : decode cL_law 26 = .ok (.arraylength, 1) := by decide +kernel
theorem dL_law_27 : decode cL_law 27 = .ok (.bipush 8, 2) := by decide +kernel
theorem dL_law_29 : decode cL_law 29 = .ok (.isub, 1) := by decide +kernel
theorem dL_law_30 : decode cL_law 30 = .ok (.if_icmp .gt 1624, 3) := by decide +kernel
theorem dL_law_33 : decode cL_law 33 = .ok (.aload_n 0, 1) := by decide +kernel
theorem dL_law_34 : decode cL_law 34 = .ok (.iload 4, 2) := by decide +kernel
theorem dL_law_36 : decode cL_law 36 = .ok (.iaload, 1) := by decide +kernel
theorem dL_law_37 : decode cL_law 37 = .ok (.bipush 31, 2) := by decide +kernel
theorem dL_law_39 : decode cL_law 39 = .ok (.iand, 1) := by decide +kernel
theorem dL_law_40 : decode cL_law 40 = .ok (.tableswitch 1608 0 28 #[132, 188, 320, 376, 432, 500, 568, 624, 637, 650, 663, 719, 775, 788, 844, 900, 956, 1012, 1068, 1124, 1180, 1236, 1292, 1360, 1373, 1429, 1497, 1553, 1594], 132) := by decide +kernel
theorem dL_law_172 : decode cL_law 172 = .ok (.aload_n 1, 1) := by decide +kernel
theorem dL_law_173 : decode cL_law 173 = .ok (.aload_n 0, 1) := by decide +kernel
theorem dL_law_174 : decode cL_law 174 = .ok (.iload 4, 2) := by decide +kernel
theorem dL_law_176 : decode cL_law 176 = .ok (.iconst 1, 1) := by decide +kernel
theorem dL_law_177 : decode cL_law 177 = .ok (.iadd, 1) := by decide +kernel
theorem dL_law_178 : decode cL_law 178 = .ok (.iaload, 1) := by decide +kernel
theorem dL_law_179 : decode cL_law 179 = .ok (.aload_n 3, 1) := by decide +kernel
theorem dL_law_180 : decode cL_law 180 = .ok (.invokestatic 88, 3) := by decide +kernel
theorem dL_law_183 : decode cL_law 183 = .ok (.istore 5, 2) := by decide +kernel
theorem dL_law_185 : decode cL_law 185 = .ok (.aload_n 2, 1) := by decide +kernel
theorem dL_law_186 : decode cL_law 186 = .ok (.aload_n 0, 1) := by decide +kernel
theorem dL_law_187 : decode cL_law 187 = .ok (.iload 4, 2) := by decide +kernel
theorem dL_law_189 : decode cL_law 189 = .ok (.iconst 1, 1) := by decide +kernel
theorem dL_law_190 : decode cL_law 190 = .ok (.iadd, 1) := by decide +kernel
theorem dL_law_191 : decode cL_law 191 = .ok (.iaload, 1) := by decide +kernel
theorem dL_law_192 : decode cL_law 192 = .ok (.invokevirtual 93, 3) := by decide +kernel
theorem dL_law_195 : decode cL_law 195 = .ok (.istore 6, 2) := by decide +kernel
theorem dL_law_197 : decode cL_law 197 = .ok (.aload_n 2, 1) := by decide +kernel
theorem dL_law_198 : decode cL_law 198 = .ok (.invokevirtual 94, 3) := by decide +kernel
theorem dL_law_201 : decode cL_law 201 = .ok (.iload 5, 2) := by decide +kernel
theorem dL_law_203 : decode cL_law 203 = .ok (.if_icmp .eq 5, 3) := by decide +kernel
theorem dL_law_206 : decode cL_law 206 = .ok (.iconst 0, 1) := by decide +kernel
theorem dL_law_207 : decode cL_law 207 = .ok (.ireturn, 1) := by decide +kernel
theorem dL_law_208 : decode cL_law 208 = .ok (.iload 5, 2) := by decide +kernel
theorem dL_law_210 : decode cL_law 210 = .ok (.ifCond .ne 15, 3) := by decide +kernel
theorem dL_law_213 : decode cL_law 213 = .ok (.aload_n 3, 1) := by decide +kernel
theorem dL_law_214 : decode cL_law 214 = .ok (.iconst 0, 1) := by decide +kernel
theorem dL_law_215 : decode cL_law 215 = .ok (.laload, 1) := by decide +kernel
theorem dL_law_216 : decode cL_law 216 = .ok (.iload 6, 2) := by decide +kernel
theorem dL_law_218 : decode cL_law 218 = .ok (.i2l, 1) := by decide +kernel
theorem dL_law_219 : decode cL_law 219 = .ok (.lcmp, 1) := by decide +kernel
theorem dL_law_220 : decode cL_law 220 = .ok (.ifCond .eq 5, 3) := by decide +kernel
theorem dL_law_223 : decode cL_law 223 = .ok (.iconst 0, 1) := by decide +kernel
theorem dL_law_224 : decode cL_law 224 = .ok (.ireturn, 1) := by decide +kernel
theorem dL_law_225 : decode cL_law 225 = .ok (.goto 1423, 3) := by decide +kernel
theorem dL_law_228 : decode cL_law 228 = .ok (.aload_n 1, 1) := by decide +kernel
theorem dL_law_229 : decode cL_law 229 = .ok (.aload_n 0, 1) := by decide +kernel
theorem dL_law_230 : decode cL_law 230 = .ok (.iload 4, 2) := by decide +kernel
theorem dL_law_232 : decode cL_law 232 = .ok (.iconst 1, 1) := by decide +kernel
theorem dL_law_233 : decode cL_law 233 = .ok (.iadd, 1) := by decide +kernel
theorem dL_law_234 : decode cL_law 234 = .ok (.iaload, 1) := by decide +kernel
theorem dL_law_235 : decode cL_law 235 = .ok (.aload_n 0, 1) := by decide +kernel
theorem dL_law_236 : decode cL_law 236 = .ok (.iload 4, 2) := by decide +kernel
theorem dL_law_238 : decode cL_law 238 = .ok (.iconst 2, 1) := by decide +kernel
theorem dL_law_239 : decode cL_law 239 = .ok (.iadd, 1) := by decide +kernel
theorem dL_law_240 : decode cL_law 240 = .ok (.iaload, 1) := by decide +kernel
theorem dL_law_241 : decode cL_law 241 = .ok (.aload_n 0, 1) := by decide +kernel
theorem dL_law_242 : decode cL_law 242 = .ok (.iload 4, 2) := by decide +kernel
theorem dL_law_244 : decode cL_law 244 = .ok (.iconst 3, 1) := by decide +kernel
theorem dL_law_245 : decode cL_law 245 = .ok (.iadd, 1) := by decide +kernel
theorem dL_law_246 : decode cL_law 246 = .ok (.iaload, 1) := by decide +kernel
theorem dL_law_247 : decode cL_law 247 = .ok (.aload_n 0, 1) := by decide +kernel
theorem dL_law_248 : decode cL_law 248 = .ok (.iload 4, 2) := by decide +kernel
theorem dL_law_250 : decode cL_law 250 = .ok (.iconst 4, 1) := by decide +kernel
theorem dL_law_251 : decode cL_law 251 = .ok (.iadd, 1) := by decide +kernel
theorem dL_law_252 : decode cL_law 252 = .ok (.iaload, 1) := by decide +kernel
theorem dL_law_253 : decode cL_law 253 = .ok (.aload_n 0, 1) := by decide +kernel
theorem dL_law_254 : decode cL_law 254 = .ok (.iload 4, 2) := by decide +kernel
theorem dL_law_256 : decode cL_law 256 = .ok (.iconst 5, 1) := by decide +kernel
theorem dL_law_257 : decode cL_law 257 = .ok (.iadd, 1) := by decide +kernel
theorem dL_law_258 : decode cL_law 258 = .ok (.iaload, 1) := by decide +kernel
theorem dL_law_259 : decode cL_law 259 = .ok (.aload_n 0, 1) := by decide +kernel
theorem dL_law_260 : decode cL_law 260 = .ok (.iload 4, 2) := by decide +kernel
theorem dL_law_262 : decode cL_law 262 = .ok (.bipush 6, 2) := by decide +kernel
theorem dL_law_264 : decode cL_law 264 = .ok (.iadd, 1) := by decide +kernel
theorem dL_law_265 : decode cL_law 265 = .ok (.iaload, 1) := by decide +kernel
theorem dL_law_266 : decode cL_law 266 = .ok (.aload_n 0, 1) := by decide +kernel
theorem dL_law_267 : decode cL_law 267 = .ok (.iload 4, 2) := by decide +kernel
theorem dL_law_269 : decode cL_law 269 = .ok (.bipush 7, 2) := by decide +kernel
theorem dL_law_271 : decode cL_law 271 = .ok (.iadd, 1) := by decide +kernel
theorem dL_law_272 : decode cL_law 272 = .ok (.iaload, 1) := by decide +kernel
theorem dL_law_273 : decode cL_law 273 = .ok (.aload_n 3, 1) := by decide +kernel
theorem dL_law_274 : decode cL_law 274 = .ok (.invokestatic 98, 3) := by decide +kernel
theorem dL_law_277 : decode cL_law 277 = .ok (.istore 5, 2) := by decide +kernel
theorem dL_law_279 : decode cL_law 279 = .ok (.aload_n 2, 1) := by decide +kernel
theorem dL_law_280 : decode cL_law 280 = .ok (.aload_n 0, 1) := by decide +kernel
theorem dL_law_281 : decode cL_law 281 = .ok (.iload 4, 2) := by decide +kernel
theorem dL_law_283 : decode cL_law 283 = .ok (.iconst 1, 1) := by decide +kernel
theorem dL_law_284 : decode cL_law 284 = .ok (.iadd, 1) := by decide +kernel
theorem dL_law_285 : decode cL_law 285 = .ok (.iaload, 1) := by decide +kernel
theorem dL_law_286 : decode cL_law 286 = .ok (.aload_n 0, 1) := by decide +kernel
theorem dL_law_287 : decode cL_law 287 = .ok (.iload 4, 2) := by decide +kernel
theorem dL_law_289 : decode cL_law 289 = .ok (.iconst 2, 1) := by decide +kernel
theorem dL_law_290 : decode cL_law 290 = .ok (.iadd, 1) := by decide +kernel
theorem dL_law_291 : decode cL_law 291 = .ok (.iaload, 1) := by decide +kernel
theorem dL_law_292 : decode cL_law 292 = .ok (.aload_n 0, 1) := by decide +kernel
theorem dL_law_293 : decode cL_law 293 = .ok (.iload 4, 2) := by decide +kernel
theorem dL_law_295 : decode cL_law 295 = .ok (.iconst 3, 1) := by decide +kernel
theorem dL_law_296 : decode cL_law 296 = .ok (.iadd, 1) := by decide +kernel
theorem dL_law_297 : decode cL_law 297 = .ok (.iaload, 1) := by decide +kernel
theorem dL_law_298 : decode cL_law 298 = .ok (.aload_n 0, 1) := by decide +kernel
theorem dL_law_299 : decode cL_law 299 = .ok (.iload 4, 2) := by decide +kernel
theorem dL_law_301 : decode cL_law 301 = .ok (.iconst 4, 1) := by decide +kernel
theorem dL_law_302 : decode cL_law 302 = .ok (.iadd, 1) := by decide +kernel
theorem dL_law_303 : decode cL_law 303 = .ok (.iaload, 1) := by decide +kernel
theorem dL_law_304 : decode cL_law 304 = .ok (.aload_n 0, 1) := by decide +kernel
theorem dL_law_305 : decode cL_law 305 = .ok (.iload 4, 2) := by decide +kernel
theorem dL_law_307 : decode cL_law 307 = .ok (.iconst 5, 1) := by decide +kernel
theorem dL_law_308 : decode cL_law 308 = .ok (.iadd, 1) := by decide +kernel
theorem dL_law_309 : decode cL_law 309 = .ok (.iaload, 1) := by decide +kernel
theorem dL_law_310 : decode cL_law 310 = .ok (.aload_n 0, 1) := by decide +kernel
theorem dL_law_311 : decode cL_law 311 = .ok (.iload 4, 2) := by decide +kernel
theorem dL_law_313 : decode cL_law 313 = .ok (.bipush 6, 2) := by decide +kernel
theorem dL_law_315 : decode cL_law 315 = .ok (.iadd, 1) := by decide +kernel
theorem dL_law_316 : decode cL_law 316 = .ok (.iaload, 1) := by decide +kernel
theorem dL_law_317 : decode cL_law 317 = .ok (.aload_n 0, 1) := by decide +kernel
theorem dL_law_318 : decode cL_law 318 = .ok (.iload 4, 2) := by decide +kernel
theorem dL_law_320 : decode cL_law 320 = .ok (.bipush 7, 2) := by decide +kernel
theorem dL_law_322 : decode cL_law 322 = .ok (.iadd, 1) := by decide +kernel
theorem dL_law_323 : decode cL_law 323 = .ok (.iaload, 1) := by decide +kernel
theorem dL_law_324 : decode cL_law 324 = .ok (.invokevirtual 101, 3) := by decide +kernel
theorem dL_law_327 : decode cL_law 327 = .ok (.istore 6, 2) := by decide +kernel
theorem dL_law_329 : decode cL_law 329 = .ok (.aload_n 2, 1) := by decide +kernel
theorem dL_law_330 : decode cL_law 330 = .ok (.invokevirtual 94, 3) := by decide +kernel
theorem dL_law_333 : decode cL_law 333 = .ok (.iload 5, 2) := by decide +kernel
theorem dL_law_335 : decode cL_law 335 = .ok (.if_icmp .eq 5, 3) := by decide +kernel
theorem dL_law_338 : decode cL_law 338 = .ok (.iconst 0, 1) := by decide +kernel
theorem dL_law_339 : decode cL_law 339 = .ok (.ireturn, 1) := by decide +kernel
theorem dL_law_340 : decode cL_law 340 = .ok (.iload 5, 2) := by decide +kernel
theorem dL_law_342 : decode cL_law 342 = .ok (.ifCond .ne 15, 3) := by decide +kernel
theorem dL_law_345 : decode cL_law 345 = .ok (.aload_n 3, 1) := by decide +kernel
theorem dL_law_346 : decode cL_law 346 = .ok (.iconst 0, 1) := by decide +kernel
theorem dL_law_347 : decode cL_law 347 = .ok (.laload, 1) := by decide +kernel
theorem dL_law_348 : decode cL_law 348 = .ok (.iload 6, 2) := by decide +kernel
theorem dL_law_350 : decode cL_law 350 = .ok (.i2l, 1) := by decide +kernel
theorem dL_law_351 : decode cL_law 351 = .ok (.lcmp, 1) := by decide +kernel
theorem dL_law_352 : decode cL_law 352 = .ok (.ifCond .eq 5, 3) := by decide +kernel
theorem dL_law_355 : decode cL_law 355 = .ok (.iconst 0, 1) := by decide +kernel
theorem dL_law_356 : decode cL_law 356 = .ok (.ireturn, 1) := by decide +kernel
theorem dL_law_357 : decode cL_law 357 = .ok (.goto 1291, 3) := by decide +kernel
theorem dL_law_360 : decode cL_law 360 = .ok (.aload_n 1, 1) := by decide +kernel
theorem dL_law_361 : decode cL_law 361 = .ok (.aload_n 0, 1) := by decide +kernel
theorem dL_law_362 : decode cL_law 362 = .ok (.iload 4, 2) := by decide +kernel
theorem dL_law_364 : decode cL_law 364 = .ok (.iconst 1, 1) := by decide +kernel
theorem dL_law_365 : decode cL_law 365 = .ok (.iadd, 1) := by decide +kernel
theorem dL_law_366 : decode cL_law 366 = .ok (.iaload, 1) := by decide +kernel
theorem dL_law_367 : decode cL_law 367 = .ok (.aload_n 3, 1) := by decide +kernel
theorem dL_law_368 : decode cL_law 368 = .ok (.invokestatic 102, 3) := by decide +kernel
theorem dL_law_371 : decode cL_law 371 = .ok (.istore 5, 2) := by decide +kernel
theorem dL_law_373 : decode cL_law 373 = .ok (.aload_n 2, 1) := by decide +kernel
theorem dL_law_374 : decode cL_law 374 = .ok (.aload_n 0, 1) := by decide +kernel
theorem dL_law_375 : decode cL_law 375 = .ok (.iload 4, 2) := by decide +kernel
theorem dL_law_377 : decode cL_law 377 = .ok (.iconst 1, 1) := by decide +kernel
theorem dL_law_378 : decode cL_law 378 = .ok (.iadd, 1) := by decide +kernel
theorem dL_law_379 : decode cL_law 379 = .ok (.iaload, 1) := by decide +kernel
theorem dL_law_380 : decode cL_law 380 = .ok (.invokevirtual 104, 3) := by decide +kernel
theorem dL_law_383 : decode cL_law 383 = .ok (.istore 6, 2) := by decide +kernel
theorem dL_law_385 : decode cL_law 385 = .ok (.aload_n 2, 1) := by decide +kernel
theorem dL_law_386 : decode cL_law 386 = .ok (.invokevirtual 94, 3) := by decide +kernel
theorem dL_law_389 : decode cL_law 389 = .ok (.iload 5, 2) := by decide +kernel
theorem dL_law_391 : decode cL_law 391 = .ok (.if_icmp .eq 5, 3) := by decide +kernel
theorem dL_law_394 : decode cL_law 394 = .ok (.iconst 0, 1) := by decide +kernel
theorem dL_law_395 : decode cL_law 395 = .ok (.ireturn, 1) := by decide +kernel
theorem dL_law_396 : decode cL_law 396 = .ok (.iload 5, 2) := by decide +kernel
theorem dL_law_398 : decode cL_law 398 = .ok (.ifCond .ne 15, 3) := by decide +kernel
theorem dL_law_401 : decode cL_law 401 = .ok (.aload_n 3, 1) := by decide +kernel
theorem dL_law_402 : decode cL_law 402 = .ok (.iconst 0, 1) := by decide +kernel
theorem dL_law_403 : decode cL_law 403 = .ok (.laload, 1) := by decide +kernel
theorem dL_law_404 : decode cL_law 404 = .ok (.iload 6, 2) := by decide +kernel
theorem dL_law_406 : decode cL_law 406 = .ok (.i2l, 1) := by decide +kernel
theorem dL_law_407 : decode cL_law 407 = .ok (.lcmp, 1) := by decide +kernel
theorem dL_law_408 : decode cL_law 408 = .ok (.ifCond .eq 5, 3) := by decide +kernel
theorem dL_law_411 : decode cL_law 411 = .ok (.iconst 0, 1) := by decide +kernel
theorem dL_law_412 : decode cL_law 412 = .ok (.ireturn, 1) := by decide +kernel
theorem dL_law_413 : decode cL_law 413 = .ok (.goto 1235, 3) := by decide +kernel
theorem dL_law_416 : decode cL_law 416 = .ok (.aload_n 1, 1) := by decide +kernel
theorem dL_law_417 : decode cL_law 417 = .ok (.aload_n 0, 1) := by decide +kernel
theorem dL_law_418 : decode cL_law 418 = .ok (.iload 4, 2) := by decide +kernel
theorem dL_law_420 : decode cL_law 420 = .ok (.iconst 1, 1) := by decide +kernel
theorem dL_law_421 : decode cL_law 421 = .ok (.iadd, 1) := by decide +kernel
theorem dL_law_422 : decode cL_law 422 = .ok (.iaload, 1) := by decide +kernel
theorem dL_law_423 : decode cL_law 423 = .ok (.aload_n 3, 1) := by decide +kernel
theorem dL_law_424 : decode cL_law 424 = .ok (.invokestatic 105, 3) := by decide +kernel
theorem dL_law_427 : decode cL_law 427 = .ok (.istore 5, 2) := by decide +kernel
theorem dL_law_429 : decode cL_law 429 = .ok (.aload_n 2, 1) := by decide +kernel
theorem dL_law_430 : decode cL_law 430 = .ok (.aload_n 0, 1) := by decide +kernel
theorem dL_law_431 : decode cL_law 431 = .ok (.iload 4, 2) := by decide +kernel
theorem dL_law_433 : decode cL_law 433 = .ok (.iconst 1, 1) := by decide +kernel
theorem dL_law_434 : decode cL_law 434 = .ok (.iadd, 1) := by decide +kernel
theorem dL_law_435 : decode cL_law 435 = .ok (.iaload, 1) := by decide +kernel
theorem dL_law_436 : decode cL_law 436 = .ok (.invokevirtual 107, 3) := by decide +kernel
theorem dL_law_439 : decode cL_law 439 = .ok (.istore 6, 2) := by decide +kernel
theorem dL_law_441 : decode cL_law 441 = .ok (.aload_n 2, 1) := by decide +kernel
theorem dL_law_442 : decode cL_law 442 = .ok (.invokevirtual 94, 3) := by decide +kernel
theorem dL_law_445 : decode cL_law 445 = .ok (.iload 5, 2) := by decide +kernel
theorem dL_law_447 : decode cL_law 447 = .ok (.if_icmp .eq 5, 3) := by decide +kernel
theorem dL_law_450 : decode cL_law 450 = .ok (.iconst 0, 1) := by decide +kernel
theorem dL_law_451 : decode cL_law 451 = .ok (.ireturn, 1) := by decide +kernel
theorem dL_law_452 : decode cL_law 452 = .ok (.iload 5, 2) := by decide +kernel
theorem dL_law_454 : decode cL_law 454 = .ok (.ifCond .ne 15, 3) := by decide +kernel
theorem dL_law_457 : decode cL_law 457 = .ok (.aload_n 3, 1) := by decide +kernel
theorem dL_law_458 : decode cL_law 458 = .ok (.iconst 0, 1) := by decide +kernel
theorem dL_law_459 : decode cL_law 459 = .ok (.laload, 1) := by decide +kernel
theorem dL_law_460 : decode cL_law 460 = .ok (.iload 6, 2) := by decide +kernel
theorem dL_law_462 : decode cL_law 462 = .ok (.i2l, 1) := by decide +kernel
theorem dL_law_463 : decode cL_law 463 = .ok (.lcmp, 1) := by decide +kernel
theorem dL_law_464 : decode cL_law 464 = .ok (.ifCond .eq 5, 3) := by decide +kernel
theorem dL_law_467 : decode cL_law 467 = .ok (.iconst 0, 1) := by decide +kernel
theorem dL_law_468 : decode cL_law 468 = .ok (.ireturn, 1) := by decide +kernel
theorem dL_law_469 : decode cL_law 469 = .ok (.goto 1179, 3) := by decide +kernel
theorem dL_law_472 : decode cL_law 472 = .ok (.aload_n 1, 1) := by decide +kernel
theorem dL_law_473 : decode cL_law 473 = .ok (.aload_n 0, 1) := by decide +kernel
theorem dL_law_474 : decode cL_law 474 = .ok (.iload 4, 2) := by decide +kernel
theorem dL_law_476 : decode cL_law 476 = .ok (.iconst 1, 1) := by decide +kernel
theorem dL_law_477 : decode cL_law 477 = .ok (.iadd, 1) := by decide +kernel
theorem dL_law_478 : decode cL_law 478 = .ok (.iaload, 1) := by decide +kernel
theorem dL_law_479 : decode cL_law 479 = .ok (.aload_n 0, 1) := by decide +kernel
theorem dL_law_480 : decode cL_law 480 = .ok (.iload 4, 2) := by decide +kernel
theorem dL_law_482 : decode cL_law 482 = .ok (.iconst 2, 1) := by decide +kernel
theorem dL_law_483 : decode cL_law 483 = .ok (.iadd, 1) := by decide +kernel
theorem dL_law_484 : decode cL_law 484 = .ok (.iaload, 1) := by decide +kernel
theorem dL_law_485 : decode cL_law 485 = .ok (.aload_n 3, 1) := by decide +kernel
theorem dL_law_486 : decode cL_law 486 = .ok (.invokestatic 108, 3) := by decide +kernel
theorem dL_law_489 : decode cL_law 489 = .ok (.istore 5, 2) := by decide +kernel
theorem dL_law_491 : decode cL_law 491 = .ok (.aload_n 2, 1) := by decide +kernel
theorem dL_law_492 : decode cL_law 492 = .ok (.aload_n 0, 1) := by decide +kernel
theorem dL_law_493 : decode cL_law 493 = .ok (.iload 4, 2) := by decide +kernel
theorem dL_law_495 : decode cL_law 495 = .ok (.iconst 1, 1) := by decide +kernel
theorem dL_law_496 : decode cL_law 496 = .ok (.iadd, 1) := by decide +kernel
theorem dL_law_497 : decode cL_law 497 = .ok (.iaload, 1) := by decide +kernel
theorem dL_law_498 : decode cL_law 498 = .ok (.aload_n 0, 1) := by decide +kernel
theorem dL_law_499 : decode cL_law 499 = .ok (.iload 4, 2) := by decide +kernel
theorem dL_law_501 : decode cL_law 501 = .ok (.iconst 2, 1) := by decide +kernel
theorem dL_law_502 : decode cL_law 502 = .ok (.iadd, 1) := by decide +kernel
theorem dL_law_503 : decode cL_law 503 = .ok (.iaload, 1) := by decide +kernel
theorem dL_law_504 : decode cL_law 504 = .ok (.invokevirtual 111, 3) := by decide +kernel
theorem dL_law_507 : decode cL_law 507 = .ok (.istore 6, 2) := by decide +kernel
theorem dL_law_509 : decode cL_law 509 = .ok (.aload_n 2, 1) := by decide +kernel
theorem dL_law_510 : decode cL_law 510 = .ok (.invokevirtual 94, 3) := by decide +kernel
theorem dL_law_513 : decode cL_law 513 = .ok (.iload 5, 2) := by decide +kernel
theorem dL_law_515 : decode cL_law 515 = .ok (.if_icmp .eq 5, 3) := by decide +kernel
theorem dL_law_518 : decode cL_law 518 = .ok (.iconst 0, 1) := by decide +kernel
theorem dL_law_519 : decode cL_law 519 = .ok (.ireturn, 1) := by decide +kernel
theorem dL_law_520 : decode cL_law 520 = .ok (.iload 5, 2) := by decide +kernel
theorem dL_law_522 : decode cL_law 522 = .ok (.ifCond .ne 15, 3) := by decide +kernel
theorem dL_law_525 : decode cL_law 525 = .ok (.aload_n 3, 1) := by decide +kernel
theorem dL_law_526 : decode cL_law 526 = .ok (.iconst 0, 1) := by decide +kernel
theorem dL_law_527 : decode cL_law 527 = .ok (.laload, 1) := by decide +kernel
theorem dL_law_528 : decode cL_law 528 = .ok (.iload 6, 2) := by decide +kernel
theorem dL_law_530 : decode cL_law 530 = .ok (.i2l, 1) := by decide +kernel
theorem dL_law_531 : decode cL_law 531 = .ok (.lcmp, 1) := by decide +kernel
theorem dL_law_532 : decode cL_law 532 = .ok (.ifCond .eq 5, 3) := by decide +kernel
theorem dL_law_535 : decode cL_law 535 = .ok (.iconst 0, 1) := by decide +kernel
theorem dL_law_536 : decode cL_law 536 = .ok (.ireturn, 1) := by decide +kernel
theorem dL_law_537 : decode cL_law 537 = .ok (.goto 1111, 3) := by decide +kernel
theorem dL_law_540 : decode cL_law 540 = .ok (.aload_n 1, 1) := by decide +kernel
theorem dL_law_541 : decode cL_law 541 = .ok (.aload_n 0, 1) := by decide +kernel
theorem dL_law_542 : decode cL_law 542 = .ok (.iload 4, 2) := by decide +kernel
theorem dL_law_544 : decode cL_law 544 = .ok (.iconst 1, 1) := by decide +kernel
theorem dL_law_545 : decode cL_law 545 = .ok (.iadd, 1) := by decide +kernel
theorem dL_law_546 : decode cL_law 546 = .ok (.iaload, 1) := by decide +kernel
theorem dL_law_547 : decode cL_law 547 = .ok (.aload_n 0, 1) := by decide +kernel
theorem dL_law_548 : decode cL_law 548 = .ok (.iload 4, 2) := by decide +kernel
theorem dL_law_550 : decode cL_law 550 = .ok (.iconst 2, 1) := by decide +kernel
theorem dL_law_551 : decode cL_law 551 = .ok (.iadd, 1) := by decide +kernel
theorem dL_law_552 : decode cL_law 552 = .ok (.iaload, 1) := by decide +kernel
theorem dL_law_553 : decode cL_law 553 = .ok (.aload_n 3, 1) := by decide +kernel
theorem dL_law_554 : decode cL_law 554 = .ok (.invokestatic 112, 3) := by decide +kernel
theorem dL_law_557 : decode cL_law 557 = .ok (.istore 5, 2) := by decide +kernel
theorem dL_law_559 : decode cL_law 559 = .ok (.aload_n 2, 1) := by decide +kernel
theorem dL_law_560 : decode cL_law 560 = .ok (.aload_n 0, 1) := by decide +kernel
theorem dL_law_561 : decode cL_law 561 = .ok (.iload 4, 2) := by decide +kernel
theorem dL_law_563 : decode cL_law 563 = .ok (.iconst 1, 1) := by decide +kernel
theorem dL_law_564 : decode cL_law 564 = .ok (.iadd, 1) := by decide +kernel
theorem dL_law_565 : decode cL_law 565 = .ok (.iaload, 1) := by decide +kernel
theorem dL_law_566 : decode cL_law 566 = .ok (.aload_n 0, 1) := by decide +kernel
theorem dL_law_567 : decode cL_law 567 = .ok (.iload 4, 2) := by decide +kernel
theorem dL_law_569 : decode cL_law 569 = .ok (.iconst 2, 1) := by decide +kernel
theorem dL_law_570 : decode cL_law 570 = .ok (.iadd, 1) := by decide +kernel
theorem dL_law_571 : decode cL_law 571 = .ok (.iaload, 1) := by decide +kernel
theorem dL_law_572 : decode cL_law 572 = .ok (.invokevirtual 114, 3) := by decide +kernel
theorem dL_law_575 : decode cL_law 575 = .ok (.istore 6, 2) := by decide +kernel
theorem dL_law_577 : decode cL_law 577 = .ok (.aload_n 2, 1) := by decide +kernel
theorem dL_law_578 : decode cL_law 578 = .ok (.invokevirtual 94, 3) := by decide +kernel
theorem dL_law_581 : decode cL_law 581 = .ok (.iload 5, 2) := by decide +kernel
theorem dL_law_583 : decode cL_law 583 = .ok (.if_icmp .eq 5, 3) := by decide +kernel
theorem dL_law_586 : decode cL_law 586 = .ok (.iconst 0, 1) := by decide +kernel
theorem dL_law_587 : decode cL_law 587 = .ok (.ireturn, 1) := by decide +kernel
theorem dL_law_588 : decode cL_law 588 = .ok (.iload 5, 2) := by decide +kernel
theorem dL_law_590 : decode cL_law 590 = .ok (.ifCond .ne 15, 3) := by decide +kernel
theorem dL_law_593 : decode cL_law 593 = .ok (.aload_n 3, 1) := by decide +kernel
theorem dL_law_594 : decode cL_law 594 = .ok (.iconst 0, 1) := by decide +kernel
theorem dL_law_595 : decode cL_law 595 = .ok (.laload, 1) := by decide +kernel
theorem dL_law_596 : decode cL_law 596 = .ok (.iload 6, 2) := by decide +kernel
theorem dL_law_598 : decode cL_law 598 = .ok (.i2l, 1) := by decide +kernel
theorem dL_law_599 : decode cL_law 599 = .ok (.lcmp, 1) := by decide +kernel
theorem dL_law_600 : decode cL_law 600 = .ok (.ifCond .eq 5, 3) := by decide +kernel
theorem dL_law_603 : decode cL_law 603 = .ok (.iconst 0, 1) := by decide +kernel
theorem dL_law_604 : decode cL_law 604 = .ok (.ireturn, 1) := by decide +kernel
theorem dL_law_605 : decode cL_law 605 = .ok (.goto 1043, 3) := by decide +kernel
theorem dL_law_608 : decode cL_law 608 = .ok (.aload_n 1, 1) := by decide +kernel
theorem dL_law_609 : decode cL_law 609 = .ok (.aload_n 0, 1) := by decide +kernel
theorem dL_law_610 : decode cL_law 610 = .ok (.iload 4, 2) := by decide +kernel
theorem dL_law_612 : decode cL_law 612 = .ok (.iconst 1, 1) := by decide +kernel
theorem dL_law_613 : decode cL_law 613 = .ok (.iadd, 1) := by decide +kernel
theorem dL_law_614 : decode cL_law 614 = .ok (.iaload, 1) := by decide +kernel
theorem dL_law_615 : decode cL_law 615 = .ok (.aload_n 3, 1) := by decide +kernel
theorem dL_law_616 : decode cL_law 616 = .ok (.invokestatic 115, 3) := by decide +kernel
theorem dL_law_619 : decode cL_law 619 = .ok (.istore 5, 2) := by decide +kernel
theorem dL_law_621 : decode cL_law 621 = .ok (.aload_n 2, 1) := by decide +kernel
theorem dL_law_622 : decode cL_law 622 = .ok (.aload_n 0, 1) := by decide +kernel
theorem dL_law_623 : decode cL_law 623 = .ok (.iload 4, 2) := by decide +kernel
theorem dL_law_625 : decode cL_law 625 = .ok (.iconst 1, 1) := by decide +kernel
theorem dL_law_626 : decode cL_law 626 = .ok (.iadd, 1) := by decide +kernel
theorem dL_law_627 : decode cL_law 627 = .ok (.iaload, 1) := by decide +kernel
theorem dL_law_628 : decode cL_law 628 = .ok (.invokevirtual 117, 3) := by decide +kernel
theorem dL_law_631 : decode cL_law 631 = .ok (.istore 6, 2) := by decide +kernel
theorem dL_law_633 : decode cL_law 633 = .ok (.aload_n 2, 1) := by decide +kernel
theorem dL_law_634 : decode cL_law 634 = .ok (.invokevirtual 94, 3) := by decide +kernel
theorem dL_law_637 : decode cL_law 637 = .ok (.iload 5, 2) := by decide +kernel
theorem dL_law_639 : decode cL_law 639 = .ok (.if_icmp .eq 5, 3) := by decide +kernel
theorem dL_law_642 : decode cL_law 642 = .ok (.iconst 0, 1) := by decide +kernel
theorem dL_law_643 : decode cL_law 643 = .ok (.ireturn, 1) := by decide +kernel
theorem dL_law_644 : decode cL_law 644 = .ok (.iload 5, 2) := by decide +kernel
theorem dL_law_646 : decode cL_law 646 = .ok (.ifCond .ne 15, 3) := by decide +kernel
theorem dL_law_649 : decode cL_law 649 = .ok (.aload_n 3, 1) := by decide +kernel
theorem dL_law_650 : decode cL_law 650 = .ok (.iconst 0, 1) := by decide +kernel
theorem dL_law_651 : decode cL_law 651 = .ok (.laload, 1) := by decide +kernel
theorem dL_law_652 : decode cL_law 652 = .ok (.iload 6, 2) := by decide +kernel
theorem dL_law_654 : decode cL_law 654 = .ok (.i2l, 1) := by decide +kernel
theorem dL_law_655 : decode cL_law 655 = .ok (.lcmp, 1) := by decide +kernel
theorem dL_law_656 : decode cL_law 656 = .ok (.ifCond .eq 5, 3) := by decide +kernel
theorem dL_law_659 : decode cL_law 659 = .ok (.iconst 0, 1) := by decide +kernel
theorem dL_law_660 : decode cL_law 660 = .ok (.ireturn, 1) := by decide +kernel
theorem dL_law_661 : decode cL_law 661 = .ok (.goto 987, 3) := by decide +kernel
theorem dL_law_664 : decode cL_law 664 = .ok (.aload_n 1, 1) := by decide +kernel
theorem dL_law_665 : decode cL_law 665 = .ok (.invokevirtual 118, 3) := by decide +kernel
theorem dL_law_668 : decode cL_law 668 = .ok (.aload_n 2, 1) := by decide +kernel
theorem dL_law_669 : decode cL_law 669 = .ok (.invokevirtual 121, 3) := by decide +kernel
theorem dL_law_672 : decode cL_law 672 = .ok (.if_icmp .eq 976, 3) := by decide +kernel
theorem dL_law_675 : decode cL_law 675 = .ok (.iconst 0, 1) := by decide +kernel
theorem dL_law_676 : decode cL_law 676 = .ok (.ireturn, 1) := by decide +kernel
theorem dL_law_677 : decode cL_law 677 = .ok (.aload_n 1, 1) := by decide +kernel
theorem dL_law_678 : decode cL_law 678 = .ok (.invokevirtual 122, 3) := by decide +kernel
theorem dL_law_681 : decode cL_law 681 = .ok (.aload_n 2, 1) := by decide +kernel
theorem dL_law_682 : decode cL_law 682 = .ok (.invokevirtual 125, 3) := by decide +kernel
theorem dL_law_685 : decode cL_law 685 = .ok (.if_icmp .eq 963, 3) := by decide +kernel
theorem dL_law_688 : decode cL_law 688 = .ok (.iconst 0, 1) := by decide +kernel
theorem dL_law_689 : decode cL_law 689 = .ok (.ireturn, 1) := by decide +kernel
theorem dL_law_690 : decode cL_law 690 = .ok (.aload_n 1, 1) := by decide +kernel
theorem dL_law_691 : decode cL_law 691 = .ok (.invokevirtual 126, 3) := by decide +kernel
theorem dL_law_694 : decode cL_law 694 = .ok (.aload_n 2, 1) := by decide +kernel
theorem dL_law_695 : decode cL_law 695 = .ok (.invokevirtual 129, 3) := by decide +kernel
theorem dL_law_698 : decode cL_law 698 = .ok (.if_icmp .eq 950, 3) := by decide +kernel
theorem dL_law_701 : decode cL_law 701 = .ok (.iconst 0, 1) := by decide +kernel
theorem dL_law_702 : decode cL_law 702 = .ok (.ireturn, 1) := by decide +kernel
theorem dL_law_703 : decode cL_law 703 = .ok (.aload_n 1, 1) := by decide +kernel
theorem dL_law_704 : decode cL_law 704 = .ok (.aload_n 0, 1) := by decide +kernel
theorem dL_law_705 : decode cL_law 705 = .ok (.iload 4, 2) := by decide +kernel
theorem dL_law_707 : decode cL_law 707 = .ok (.iconst 1, 1) := by decide +kernel
theorem dL_law_708 : decode cL_law 708 = .ok (.iadd, 1) := by decide +kernel
theorem dL_law_709 : decode cL_law 709 = .ok (.iaload, 1) := by decide +kernel
theorem dL_law_710 : decode cL_law 710 = .ok (.aload_n 3, 1) := by decide +kernel
theorem dL_law_711 : decode cL_law 711 = .ok (.invokestatic 130, 3) := by decide +kernel
theorem dL_law_714 : decode cL_law 714 = .ok (.istore 5, 2) := by decide +kernel
theorem dL_law_716 : decode cL_law 716 = .ok (.aload_n 2, 1) := by decide +kernel
theorem dL_law_717 : decode cL_law 717 = .ok (.aload_n 0, 1) := by decide +kernel
theorem dL_law_718 : decode cL_law 718 = .ok (.iload 4, 2) := by decide +kernel
theorem dL_law_720 : decode cL_law 720 = .ok (.iconst 1, 1) := by decide +kernel
theorem dL_law_721 : decode cL_law 721 = .ok (.iadd, 1) := by decide +kernel
theorem dL_law_722 : decode cL_law 722 = .ok (.iaload, 1) := by decide +kernel
theorem dL_law_723 : decode cL_law 723 = .ok (.invokevirtual 132, 3) := by decide +kernel
theorem dL_law_726 : decode cL_law 726 = .ok (.istore 6, 2) := by decide +kernel
theorem dL_law_728 : decode cL_law 728 = .ok (.aload_n 2, 1) := by decide +kernel
theorem dL_law_729 : decode cL_law 729 = .ok (.invokevirtual 94, 3) := by decide +kernel
theorem dL_law_732 : decode cL_law 732 = .ok (.iload 5, 2) := by decide +kernel
theorem dL_law_734 : decode cL_law 734 = .ok (.if_icmp .eq 5, 3) := by decide +kernel
theorem dL_law_737 : decode cL_law 737 = .ok (.iconst 0, 1) := by decide +kernel
theorem dL_law_738 : decode cL_law 738 = .ok (.ireturn, 1) := by decide +kernel
theorem dL_law_739 : decode cL_law 739 = .ok (.iload 5, 2) := by decide +kernel
theorem dL_law_741 : decode cL_law 741 = .ok (.ifCond .ne 15, 3) := by decide +kernel
theorem dL_law_744 : decode cL_law 744 = .ok (.aload_n 3, 1) := by decide +kernel
theorem dL_law_745 : decode cL_law 745 = .ok (.iconst 0, 1) := by decide +kernel
theorem dL_law_746 : decode cL_law 746 = .ok (.laload, 1) := by decide +kernel
theorem dL_law_747 : decode cL_law 747 = .ok (.iload 6, 2) := by decide +kernel
theorem dL_law_749 : decode cL_law 749 = .ok (.i2l, 1) := by decide +kernel
theorem dL_law_750 : decode cL_law 750 = .ok (.lcmp, 1) := by decide +kernel
theorem dL_law_751 : decode cL_law 751 = .ok (.ifCond .eq 5, 3) := by decide +kernel
theorem dL_law_754 : decode cL_law 754 = .ok (.iconst 0, 1) := by decide +kernel
theorem dL_law_755 : decode cL_law 755 = .ok (.ireturn, 1) := by decide +kernel
theorem dL_law_756 : decode cL_law 756 = .ok (.goto 892, 3) := by decide +kernel
theorem dL_law_759 : decode cL_law 759 = .ok (.aload_n 1, 1) := by decide +kernel
theorem dL_law_760 : decode cL_law 760 = .ok (.aload_n 0, 1) := by decide +kernel
theorem dL_law_761 : decode cL_law 761 = .ok (.iload 4, 2) := by decide +kernel
theorem dL_law_763 : decode cL_law 763 = .ok (.iconst 1, 1) := by decide +kernel
theorem dL_law_764 : decode cL_law 764 = .ok (.iadd, 1) := by decide +kernel
theorem dL_law_765 : decode cL_law 765 = .ok (.iaload, 1) := by decide +kernel
theorem dL_law_766 : decode cL_law 766 = .ok (.aload_n 3, 1) := by decide +kernel
theorem dL_law_767 : decode cL_law 767 = .ok (.invokestatic 133, 3) := by decide +kernel
theorem dL_law_770 : decode cL_law 770 = .ok (.istore 5, 2) := by decide +kernel
theorem dL_law_772 : decode cL_law 772 = .ok (.aload_n 2, 1) := by decide +kernel
theorem dL_law_773 : decode cL_law 773 = .ok (.aload_n 0, 1) := by decide +kernel
theorem dL_law_774 : decode cL_law 774 = .ok (.iload 4, 2) := by decide +kernel
theorem dL_law_776 : decode cL_law 776 = .ok (.iconst 1, 1) := by decide +kernel
theorem dL_law_777 : decode cL_law 777 = .ok (.iadd, 1) := by decide +kernel
theorem dL_law_778 : decode cL_law 778 = .ok (.iaload, 1) := by decide +kernel
theorem dL_law_779 : decode cL_law 779 = .ok (.invokevirtual 135, 3) := by decide +kernel
theorem dL_law_782 : decode cL_law 782 = .ok (.istore 6, 2) := by decide +kernel
theorem dL_law_784 : decode cL_law 784 = .ok (.aload_n 2, 1) := by decide +kernel
theorem dL_law_785 : decode cL_law 785 = .ok (.invokevirtual 94, 3) := by decide +kernel
theorem dL_law_788 : decode cL_law 788 = .ok (.iload 5, 2) := by decide +kernel
theorem dL_law_790 : decode cL_law 790 = .ok (.if_icmp .eq 5, 3) := by decide +kernel
theorem dL_law_793 : decode cL_law 793 = .ok (.iconst 0, 1) := by decide +kernel
theorem dL_law_794 : decode cL_law 794 = .ok (.ireturn, 1) := by decide +kernel
theorem dL_law_795 : decode cL_law 795 = .ok (.iload 5, 2) := by decide +kernel
theorem dL_law_797 : decode cL_law 797 = .ok (.ifCond .ne 15, 3) := by decide +kernel
theorem dL_law_800 : decode cL_law 800 = .ok (.aload_n 3, 1) := by decide +kernel
theorem dL_law_801 : decode cL_law 801 = .ok (.iconst 0, 1) := by decide +kernel
theorem dL_law_802 : decode cL_law 802 = .ok (.laload, 1) := by decide +kernel
theorem dL_law_803 : decode cL_law 803 = .ok (.iload 6, 2) := by decide +kernel
theorem dL_law_805 : decode cL_law 805 = .ok (.i2l, 1) := by decide +kernel
theorem dL_law_806 : decode cL_law 806 = .ok (.lcmp, 1) := by decide +kernel
theorem dL_law_807 : decode cL_law 807 = .ok (.ifCond .eq 5, 3) := by decide +kernel
theorem dL_law_810 : decode cL_law 810 = .ok (.iconst 0, 1) := by decide +kernel
theorem dL_law_811 : decode cL_law 811 = .ok (.ireturn, 1) := by decide +kernel
theorem dL_law_812 : decode cL_law 812 = .ok (.goto 836, 3) := by decide +kernel
theorem dL_law_815 : decode cL_law 815 = .ok (.aload_n 1, 1) := by decide +kernel
theorem dL_law_816 : decode cL_law 816 = .ok (.invokevirtual 136, 3) := by decide +kernel
theorem dL_law_819 : decode cL_law 819 = .ok (.aload_n 2, 1) := by decide +kernel
theorem dL_law_820 : decode cL_law 820 = .ok (.invokevirtual 139, 3) := by decide +kernel
theorem dL_law_823 : decode cL_law 823 = .ok (.if_icmp .eq 825, 3) := by decide +kernel
theorem dL_law_826 : decode cL_law 826 = .ok (.iconst 0, 1) := by decide +kernel
theorem dL_law_827 : decode cL_law 827 = .ok (.ireturn, 1) := by decide +kernel
theorem dL_law_828 : decode cL_law 828 = .ok (.aload_n 1, 1) := by decide +kernel
theorem dL_law_829 : decode cL_law 829 = .ok (.aload_n 0, 1) := by decide +kernel
theorem dL_law_830 : decode cL_law 830 = .ok (.iload 4, 2) := by decide +kernel
theorem dL_law_832 : decode cL_law 832 = .ok (.iconst 1, 1) := by decide +kernel
theorem dL_law_833 : decode cL_law 833 = .ok (.iadd, 1) := by decide +kernel
theorem dL_law_834 : decode cL_law 834 = .ok (.iaload, 1) := by decide +kernel
theorem dL_law_835 : decode cL_law 835 = .ok (.aload_n 3, 1) := by decide +kernel
theorem dL_law_836 : decode cL_law 836 = .ok (.invokestatic 140, 3) := by decide +kernel
theorem dL_law_839 : decode cL_law 839 = .ok (.istore 5, 2) := by decide +kernel
theorem dL_law_841 : decode cL_law 841 = .ok (.aload_n 2, 1) := by decide +kernel
theorem dL_law_842 : decode cL_law 842 = .ok (.aload_n 0, 1) := by decide +kernel
theorem dL_law_843 : decode cL_law 843 = .ok (.iload 4, 2) := by decide +kernel
theorem dL_law_845 : decode cL_law 845 = .ok (.iconst 1, 1) := by decide +kernel
theorem dL_law_846 : decode cL_law 846 = .ok (.iadd, 1) := by decide +kernel
theorem dL_law_847 : decode cL_law 847 = .ok (.iaload, 1) := by decide +kernel
theorem dL_law_848 : decode cL_law 848 = .ok (.invokevirtual 142, 3) := by decide +kernel
theorem dL_law_851 : decode cL_law 851 = .ok (.istore 6, 2) := by decide +kernel
theorem dL_law_853 : decode cL_law 853 = .ok (.aload_n 2, 1) := by decide +kernel
theorem dL_law_854 : decode cL_law 854 = .ok (.invokevirtual 94, 3) := by decide +kernel
theorem dL_law_857 : decode cL_law 857 = .ok (.iload 5, 2) := by decide +kernel
theorem dL_law_859 : decode cL_law 859 = .ok (.if_icmp .eq 5, 3) := by decide +kernel
theorem dL_law_862 : decode cL_law 862 = .ok (.iconst 0, 1) := by decide +kernel
theorem dL_law_863 : decode cL_law 863 = .ok (.ireturn, 1) := by decide +kernel
theorem dL_law_864 : decode cL_law 864 = .ok (.iload 5, 2) := by decide +kernel
theorem dL_law_866 : decode cL_law 866 = .ok (.ifCond .ne 15, 3) := by decide +kernel
theorem dL_law_869 : decode cL_law 869 = .ok (.aload_n 3, 1) := by decide +kernel
theorem dL_law_870 : decode cL_law 870 = .ok (.iconst 0, 1) := by decide +kernel
theorem dL_law_871 : decode cL_law 871 = .ok (.laload, 1) := by decide +kernel
theorem dL_law_872 : decode cL_law 872 = .ok (.iload 6, 2) := by decide +kernel
theorem dL_law_874 : decode cL_law 874 = .ok (.i2l, 1) := by decide +kernel
theorem dL_law_875 : decode cL_law 875 = .ok (.lcmp, 1) := by decide +kernel
theorem dL_law_876 : decode cL_law 876 = .ok (.ifCond .eq 5, 3) := by decide +kernel
theorem dL_law_879 : decode cL_law 879 = .ok (.iconst 0, 1) := by decide +kernel
theorem dL_law_880 : decode cL_law 880 = .ok (.ireturn, 1) := by decide +kernel
theorem dL_law_881 : decode cL_law 881 = .ok (.goto 767, 3) := by decide +kernel
theorem dL_law_884 : decode cL_law 884 = .ok (.aload_n 1, 1) := by decide +kernel
theorem dL_law_885 : decode cL_law 885 = .ok (.aload_n 0, 1) := by decide +kernel
theorem dL_law_886 : decode cL_law 886 = .ok (.iload 4, 2) := by decide +kernel
theorem dL_law_888 : decode cL_law 888 = .ok (.iconst 1, 1) := by decide +kernel
theorem dL_law_889 : decode cL_law 889 = .ok (.iadd, 1) := by decide +kernel
theorem dL_law_890 : decode cL_law 890 = .ok (.iaload, 1) := by decide +kernel
theorem dL_law_891 : decode cL_law 891 = .ok (.aload_n 3, 1) := by decide +kernel
theorem dL_law_892 : decode cL_law 892 = .ok (.invokestatic 143, 3) := by decide +kernel
theorem dL_law_895 : decode cL_law 895 = .ok (.istore 5, 2) := by decide +kernel
theorem dL_law_897 : decode cL_law 897 = .ok (.aload_n 2, 1) := by decide +kernel
theorem dL_law_898 : decode cL_law 898 = .ok (.aload_n 0, 1) := by decide +kernel
theorem dL_law_899 : decode cL_law 899 = .ok (.iload 4, 2) := by decide +kernel
theorem dL_law_901 : decode cL_law 901 = .ok (.iconst 1, 1) := by decide +kernel
theorem dL_law_902 : decode cL_law 902 = .ok (.iadd, 1) := by decide +kernel
theorem dL_law_903 : decode cL_law 903 = .ok (.iaload, 1) := by decide +kernel
theorem dL_law_904 : decode cL_law 904 = .ok (.invokevirtual 145, 3) := by decide +kernel
theorem dL_law_907 : decode cL_law 907 = .ok (.istore 6, 2) := by decide +kernel
theorem dL_law_909 : decode cL_law 909 = .ok (.aload_n 2, 1) := by decide +kernel
theorem dL_law_910 : decode cL_law 910 = .ok (.invokevirtual 94, 3) := by decide +kernel
theorem dL_law_913 : decode cL_law 913 = .ok (.iload 5, 2) := by decide +kernel
theorem dL_law_915 : decode cL_law 915 = .ok (.if_icmp .eq 5, 3) := by decide +kernel
theorem dL_law_918 : decode cL_law 918 = .ok (.iconst 0, 1) := by decide +kernel
theorem dL_law_919 : decode cL_law 919 = .ok (.ireturn, 1) := by decide +kernel
theorem dL_law_920 : decode cL_law 920 = .ok (.iload 5, 2) := by decide +kernel
theorem dL_law_922 : decode cL_law 922 = .ok (.ifCond .ne 15, 3) := by decide +kernel
theorem dL_law_925 : decode cL_law 925 = .ok (.aload_n 3, 1) := by decide +kernel
theorem dL_law_926 : decode cL_law 926 = .ok (.iconst 0, 1) := by decide +kernel
theorem dL_law_927 : decode cL_law 927 = .ok (.laload, 1) := by decide +kernel
theorem dL_law_928 : decode cL_law 928 = .ok (.iload 6, 2) := by decide +kernel
theorem dL_law_930 : decode cL_law 930 = .ok (.i2l, 1) := by decide +kernel
theorem dL_law_931 : decode cL_law 931 = .ok (.lcmp, 1) := by decide +kernel
theorem dL_law_932 : decode cL_law 932 = .ok (.ifCond .eq 5, 3) := by decide +kernel
theorem dL_law_935 : decode cL_law 935 = .ok (.iconst 0, 1) := by decide +kernel
theorem dL_law_936 : decode cL_law 936 = .ok (.ireturn, 1) := by decide +kernel
theorem dL_law_937 : decode cL_law 937 = .ok (.goto 711, 3) := by decide +kernel
theorem dL_law_940 : decode cL_law 940 = .ok (.aload_n 1, 1) := by decide +kernel
theorem dL_law_941 : decode cL_law 941 = .ok (.aload_n 0, 1) := by decide +kernel
theorem dL_law_942 : decode cL_law 942 = .ok (.iload 4, 2) := by decide +kernel
theorem dL_law_944 : decode cL_law 944 = .ok (.iconst 1, 1) := by decide +kernel
theorem dL_law_945 : decode cL_law 945 = .ok (.iadd, 1) := by decide +kernel
theorem dL_law_946 : decode cL_law 946 = .ok (.iaload, 1) := by decide +kernel
theorem dL_law_947 : decode cL_law 947 = .ok (.aload_n 3, 1) := by decide +kernel
theorem dL_law_948 : decode cL_law 948 = .ok (.invokestatic 146, 3) := by decide +kernel
theorem dL_law_951 : decode cL_law 951 = .ok (.istore 5, 2) := by decide +kernel
theorem dL_law_953 : decode cL_law 953 = .ok (.aload_n 2, 1) := by decide +kernel
theorem dL_law_954 : decode cL_law 954 = .ok (.aload_n 0, 1) := by decide +kernel
theorem dL_law_955 : decode cL_law 955 = .ok (.iload 4, 2) := by decide +kernel
theorem dL_law_957 : decode cL_law 957 = .ok (.iconst 1, 1) := by decide +kernel
theorem dL_law_958 : decode cL_law 958 = .ok (.iadd, 1) := by decide +kernel
theorem dL_law_959 : decode cL_law 959 = .ok (.iaload, 1) := by decide +kernel
theorem dL_law_960 : decode cL_law 960 = .ok (.invokevirtual 148, 3) := by decide +kernel
theorem dL_law_963 : decode cL_law 963 = .ok (.istore 6, 2) := by decide +kernel
theorem dL_law_965 : decode cL_law 965 = .ok (.aload_n 2, 1) := by decide +kernel
theorem dL_law_966 : decode cL_law 966 = .ok (.invokevirtual 94, 3) := by decide +kernel
theorem dL_law_969 : decode cL_law 969 = .ok (.iload 5, 2) := by decide +kernel
theorem dL_law_971 : decode cL_law 971 = .ok (.if_icmp .eq 5, 3) := by decide +kernel
theorem dL_law_974 : decode cL_law 974 = .ok (.iconst 0, 1) := by decide +kernel
theorem dL_law_975 : decode cL_law 975 = .ok (.ireturn, 1) := by decide +kernel
theorem dL_law_976 : decode cL_law 976 = .ok (.iload 5, 2) := by decide +kernel
theorem dL_law_978 : decode cL_law 978 = .ok (.ifCond .ne 15, 3) := by decide +kernel
theorem dL_law_981 : decode cL_law 981 = .ok (.aload_n 3, 1) := by decide +kernel
theorem dL_law_982 : decode cL_law 982 = .ok (.iconst 0, 1) := by decide +kernel
theorem dL_law_983 : decode cL_law 983 = .ok (.laload, 1) := by decide +kernel
theorem dL_law_984 : decode cL_law 984 = .ok (.iload 6, 2) := by decide +kernel
theorem dL_law_986 : decode cL_law 986 = .ok (.i2l, 1) := by decide +kernel
theorem dL_law_987 : decode cL_law 987 = .ok (.lcmp, 1) := by decide +kernel
theorem dL_law_988 : decode cL_law 988 = .ok (.ifCond .eq 5, 3) := by decide +kernel
theorem dL_law_991 : decode cL_law 991 = .ok (.iconst 0, 1) := by decide +kernel
theorem dL_law_992 : decode cL_law 992 = .ok (.ireturn, 1) := by decide +kernel
theorem dL_law_993 : decode cL_law 993 = .ok (.goto 655, 3) := by decide +kernel
theorem dL_law_996 : decode cL_law 996 = .ok (.aload_n 1, 1) := by decide +kernel
theorem dL_law_997 : decode cL_law 997 = .ok (.aload_n 0, 1) := by decide +kernel
theorem dL_law_998 : decode cL_law 998 = .ok (.iload 4, 2) := by decide +kernel
theorem dL_law_1000 : decode cL_law 1000 = .ok (.iconst 1, 1) := by decide +kernel
theorem dL_law_1001 : decode cL_law 1001 = .ok (.iadd, 1) := by decide +kernel
theorem dL_law_1002 : decode cL_law 1002 = .ok (.iaload, 1) := by decide +kernel
theorem dL_law_1003 : decode cL_law 1003 = .ok (.aload_n 3, 1) := by decide +kernel
theorem dL_law_1004 : decode cL_law 1004 = .ok (.invokestatic 149, 3) := by decide +kernel
theorem dL_law_1007 : decode cL_law 1007 = .ok (.istore 5, 2) := by decide +kernel
theorem dL_law_1009 : decode cL_law 1009 = .ok (.aload_n 2, 1) := by decide +kernel
theorem dL_law_1010 : decode cL_law 1010 = .ok (.aload_n 0, 1) := by decide +kernel
theorem dL_law_1011 : decode cL_law 1011 = .ok (.iload 4, 2) := by decide +kernel
theorem dL_law_1013 : decode cL_law 1013 = .ok (.iconst 1, 1) := by decide +kernel
theorem dL_law_1014 : decode cL_law 1014 = .ok (.iadd, 1) := by decide +kernel
theorem dL_law_1015 : decode cL_law 1015 = .ok (.iaload, 1) := by decide +kernel
theorem dL_law_1016 : decode cL_law 1016 = .ok (.invokevirtual 151, 3) := by decide +kernel
theorem dL_law_1019 : decode cL_law 1019 = .ok (.istore 6, 2) := by decide +kernel
theorem dL_law_1021 : decode cL_law 1021 = .ok (.aload_n 2, 1) := by decide +kernel
theorem dL_law_1022 : decode cL_law 1022 = .ok (.invokevirtual 94, 3) := by decide +kernel
theorem dL_law_1025 : decode cL_law 1025 = .ok (.iload 5, 2) := by decide +kernel
theorem dL_law_1027 : decode cL_law 1027 = .ok (.if_icmp .eq 5, 3) := by decide +kernel
theorem dL_law_1030 : decode cL_law 1030 = .ok (.iconst 0, 1) := by decide +kernel
theorem dL_law_1031 : decode cL_law 1031 = .ok (.ireturn, 1) := by decide +kernel
theorem dL_law_1032 : decode cL_law 1032 = .ok (.iload 5, 2) := by decide +kernel
theorem dL_law_1034 : decode cL_law 1034 = .ok (.ifCond .ne 15, 3) := by decide +kernel
theorem dL_law_1037 : decode cL_law 1037 = .ok (.aload_n 3, 1) := by decide +kernel
theorem dL_law_1038 : decode cL_law 1038 = .ok (.iconst 0, 1) := by decide +kernel
theorem dL_law_1039 : decode cL_law 1039 = .ok (.laload, 1) := by decide +kernel
theorem dL_law_1040 : decode cL_law 1040 = .ok (.iload 6, 2) := by decide +kernel
theorem dL_law_1042 : decode cL_law 1042 = .ok (.i2l, 1) := by decide +kernel
theorem dL_law_1043 : decode cL_law 1043 = .ok (.lcmp, 1) := by decide +kernel
theorem dL_law_1044 : decode cL_law 1044 = .ok (.ifCond .eq 5, 3) := by decide +kernel
theorem dL_law_1047 : decode cL_law 1047 = .ok (.iconst 0, 1) := by decide +kernel
theorem dL_law_1048 : decode cL_law 1048 = .ok (.ireturn, 1) := by decide +kernel
theorem dL_law_1049 : decode cL_law 1049 = .ok (.goto 599, 3) := by decide +kernel
theorem dL_law_1052 : decode cL_law 1052 = .ok (.aload_n 1, 1) := by decide +kernel
theorem dL_law_1053 : decode cL_law 1053 = .ok (.aload_n 0, 1) := by decide +kernel
theorem dL_law_1054 : decode cL_law 1054 = .ok (.iload 4, 2) := by decide +kernel
theorem dL_law_1056 : decode cL_law 1056 = .ok (.iconst 1, 1) := by decide +kernel
theorem dL_law_1057 : decode cL_law 1057 = .ok (.iadd, 1) := by decide +kernel
theorem dL_law_1058 : decode cL_law 1058 = .ok (.iaload, 1) := by decide +kernel
theorem dL_law_1059 : decode cL_law 1059 = .ok (.aload_n 3, 1) := by decide +kernel
theorem dL_law_1060 : decode cL_law 1060 = .ok (.invokestatic 152, 3) := by decide +kernel
theorem dL_law_1063 : decode cL_law 1063 = .ok (.istore 5, 2) := by decide +kernel
theorem dL_law_1065 : decode cL_law 1065 = .ok (.aload_n 2, 1) := by decide +kernel
theorem dL_law_1066 : decode cL_law 1066 = .ok (.aload_n 0, 1) := by decide +kernel
theorem dL_law_1067 : decode cL_law 1067 = .ok (.iload 4, 2) := by decide +kernel
theorem dL_law_1069 : decode cL_law 1069 = .ok (.iconst 1, 1) := by decide +kernel
theorem dL_law_1070 : decode cL_law 1070 = .ok (.iadd, 1) := by decide +kernel
theorem dL_law_1071 : decode cL_law 1071 = .ok (.iaload, 1) := by decide +kernel
theorem dL_law_1072 : decode cL_law 1072 = .ok (.invokevirtual 154, 3) := by decide +kernel
theorem dL_law_1075 : decode cL_law 1075 = .ok (.istore 6, 2) := by decide +kernel
theorem dL_law_1077 : decode cL_law 1077 = .ok (.aload_n 2, 1) := by decide +kernel
theorem dL_law_1078 : decode cL_law 1078 = .ok (.invokevirtual 94, 3) := by decide +kernel
theorem dL_law_1081 : decode cL_law 1081 = .ok (.iload 5, 2) := by decide +kernel
theorem dL_law_1083 : decode cL_law 1083 = .ok (.if_icmp .eq 5, 3) := by decide +kernel
theorem dL_law_1086 : decode cL_law 1086 = .ok (.iconst 0, 1) := by decide +kernel
theorem dL_law_1087 : decode cL_law 1087 = .ok (.ireturn, 1) := by decide +kernel
theorem dL_law_1088 : decode cL_law 1088 = .ok (.iload 5, 2) := by decide +kernel
theorem dL_law_1090 : decode cL_law 1090 = .ok (.ifCond .ne 15, 3) := by decide +kernel
theorem dL_law_1093 : decode cL_law 1093 = .ok (.aload_n 3, 1) := by decide +kernel
theorem dL_law_1094 : decode cL_law 1094 = .ok (.iconst 0, 1) := by decide +kernel
theorem dL_law_1095 : decode cL_law 1095 = .ok (.laload, 1) := by decide +kernel
theorem dL_law_1096 : decode cL_law 1096 = .ok (.iload 6, 2) := by decide +kernel
theorem dL_law_1098 : decode cL_law 1098 = .ok (.i2l, 1) := by decide +kernel
theorem dL_law_1099 : decode cL_law 1099 = .ok (.lcmp, 1) := by decide +kernel
theorem dL_law_1100 : decode cL_law 1100 = .ok (.ifCond .eq 5, 3) := by decide +kernel
theorem dL_law_1103 : decode cL_law 1103 = .ok (.iconst 0, 1) := by decide +kernel
theorem dL_law_1104 : decode cL_law 1104 = .ok (.ireturn, 1) := by decide +kernel
theorem dL_law_1105 : decode cL_law 1105 = .ok (.goto 543, 3) := by decide +kernel
theorem dL_law_1108 : decode cL_law 1108 = .ok (.aload_n 1, 1) := by decide +kernel
theorem dL_law_1109 : decode cL_law 1109 = .ok (.aload_n 0, 1) := by decide +kernel
theorem dL_law_1110 : decode cL_law 1110 = .ok (.iload 4, 2) := by decide +kernel
theorem dL_law_1112 : decode cL_law 1112 = .ok (.iconst 1, 1) := by decide +kernel
theorem dL_law_1113 : decode cL_law 1113 = .ok (.iadd, 1) := by decide +kernel
theorem dL_law_1114 : decode cL_law 1114 = .ok (.iaload, 1) := by decide +kernel
theorem dL_law_1115 : decode cL_law 1115 = .ok (.aload_n 3, 1) := by decide +kernel
theorem dL_law_1116 : decode cL_law 1116 = .ok (.invokestatic 155, 3) := by decide +kernel
theorem dL_law_1119 : decode cL_law 1119 = .ok (.istore 5, 2) := by decide +kernel
theorem dL_law_1121 : decode cL_law 1121 = .ok (.aload_n 2, 1) := by decide +kernel
theorem dL_law_1122 : decode cL_law 1122 = .ok (.aload_n 0, 1) := by decide +kernel
theorem dL_law_1123 : decode cL_law 1123 = .ok (.iload 4, 2) := by decide +kernel
theorem dL_law_1125 : decode cL_law 1125 = .ok (.iconst 1, 1) := by decide +kernel
theorem dL_law_1126 : decode cL_law 1126 = .ok (.iadd, 1) := by decide +kernel
theorem dL_law_1127 : decode cL_law 1127 = .ok (.iaload, 1) := by decide +kernel
theorem dL_law_1128 : decode cL_law 1128 = .ok (.invokevirtual 157, 3) := by decide +kernel
theorem dL_law_1131 : decode cL_law 1131 = .ok (.istore 6, 2) := by decide +kernel
theorem dL_law_1133 : decode cL_law 1133 = .ok (.aload_n 2, 1) := by decide +kernel
theorem dL_law_1134 : decode cL_law 1134 = .ok (.invokevirtual 94, 3) := by decide +kernel
theorem dL_law_1137 : decode cL_law 1137 = .ok (.iload 5, 2) := by decide +kernel
theorem dL_law_1139 : decode cL_law 1139 = .ok (.if_icmp .eq 5, 3) := by decide +kernel
theorem dL_law_1142 : decode cL_law 1142 = .ok (.iconst 0, 1) := by decide +kernel
theorem dL_law_1143 : decode cL_law 1143 = .ok (.ireturn, 1) := by decide +kernel
theorem dL_law_1144 : decode cL_law 1144 = .ok (.iload 5, 2) := by decide +kernel
theorem dL_law_1146 : decode cL_law 1146 = .ok (.ifCond .ne 15, 3) := by decide +kernel
theorem dL_law_1149 : decode cL_law 1149 = .ok (.aload_n 3, 1) := by decide +kernel
theorem dL_law_1150 : decode cL_law 1150 = .ok (.iconst 0, 1) := by decide +kernel
theorem dL_law_1151 : decode cL_law 1151 = .ok (.laload, 1) := by decide +kernel
theorem dL_law_1152 : decode cL_law 1152 = .ok (.iload 6, 2) := by decide +kernel
theorem dL_law_1154 : decode cL_law 1154 = .ok (.i2l, 1) := by decide +kernel
theorem dL_law_1155 : decode cL_law 1155 = .ok (.lcmp, 1) := by decide +kernel
theorem dL_law_1156 : decode cL_law 1156 = .ok (.ifCond .eq 5, 3) := by decide +kernel
theorem dL_law_1159 : decode cL_law 1159 = .ok (.iconst 0, 1) := by decide +kernel
theorem dL_law_1160 : decode cL_law 1160 = .ok (.ireturn, 1) := by decide +kernel
theorem dL_law_1161 : decode cL_law 1161 = .ok (.goto 487, 3) := by decide +kernel
theorem dL_law_1164 : decode cL_law 1164 = .ok (.aload_n 1, 1) := by decide +kernel
theorem dL_law_1165 : decode cL_law 1165 = .ok (.aload_n 0, 1) := by decide +kernel
theorem dL_law_1166 : decode cL_law 1166 = .ok (.iload 4, 2) := by decide +kernel
theorem dL_law_1168 : decode cL_law 1168 = .ok (.iconst 1, 1) := by decide +kernel
theorem dL_law_1169 : decode cL_law 1169 = .ok (.iadd, 1) := by decide +kernel
theorem dL_law_1170 : decode cL_law 1170 = .ok (.iaload, 1) := by decide +kernel
theorem dL_law_1171 : decode cL_law 1171 = .ok (.aload_n 3, 1) := by decide +kernel
theorem dL_law_1172 : decode cL_law 1172 = .ok (.invokestatic 158, 3) := by decide +kernel
theorem dL_law_1175 : decode cL_law 1175 = .ok (.istore 5, 2) := by decide +kernel
theorem dL_law_1177 : decode cL_law 1177 = .ok (.aload_n 2, 1) := by decide +kernel
theorem dL_law_1178 : decode cL_law 1178 = .ok (.aload_n 0, 1) := by decide +kernel
theorem dL_law_1179 : decode cL_law 1179 = .ok (.iload 4, 2) := by decide +kernel
theorem dL_law_1181 : decode cL_law 1181 = .ok (.iconst 1, 1) := by decide +kernel
theorem dL_law_1182 : decode cL_law 1182 = .ok (.iadd, 1) := by decide +kernel
theorem dL_law_1183 : decode cL_law 1183 = .ok (.iaload, 1) := by decide +kernel
theorem dL_law_1184 : decode cL_law 1184 = .ok (.invokevirtual 160, 3) := by decide +kernel
theorem dL_law_1187 : decode cL_law 1187 = .ok (.istore 6, 2) := by decide +kernel
theorem dL_law_1189 : decode cL_law 1189 = .ok (.aload_n 2, 1) := by decide +kernel
theorem dL_law_1190 : decode cL_law 1190 = .ok (.invokevirtual 94, 3) := by decide +kernel
theorem dL_law_1193 : decode cL_law 1193 = .ok (.iload 5, 2) := by decide +kernel
theorem dL_law_1195 : decode cL_law 1195 = .ok (.if_icmp .eq 5, 3) := by decide +kernel
theorem dL_law_1198 : decode cL_law 1198 = .ok (.iconst 0, 1) := by decide +kernel
theorem dL_law_1199 : decode cL_law 1199 = .ok (.ireturn, 1) := by decide +kernel
theorem dL_law_1200 : decode cL_law 1200 = .ok (.iload 5, 2) := by decide +kernel
theorem dL_law_1202 : decode cL_law 1202 = .ok (.ifCond .ne 15, 3) := by decide +kernel
theorem dL_law_1205 : decode cL_law 1205 = .ok (.aload_n 3, 1) := by decide +kernel
theorem dL_law_1206 : decode cL_law 1206 = .ok (.iconst 0, 1) := by decide +kernel
theorem dL_law_1207 : decode cL_law 1207 = .ok (.laload, 1) := by decide +kernel
theorem dL_law_1208 : decode cL_law 1208 = .ok (.iload 6, 2) := by decide +kernel
theorem dL_law_1210 : decode cL_law 1210 = .ok (.i2l, 1) := by decide +kernel
theorem dL_law_1211 : decode cL_law 1211 = .ok (.lcmp, 1) := by decide +kernel
theorem dL_law_1212 : decode cL_law 1212 = .ok (.ifCond .eq 5, 3) := by decide +kernel
theorem dL_law_1215 : decode cL_law 1215 = .ok (.iconst 0, 1) := by decide +kernel
theorem dL_law_1216 : decode cL_law 1216 = .ok (.ireturn, 1) := by decide +kernel
theorem dL_law_1217 : decode cL_law 1217 = .ok (.goto 431, 3) := by decide +kernel
theorem dL_law_1220 : decode cL_law 1220 = .ok (.aload_n 1, 1) := by decide +kernel
theorem dL_law_1221 : decode cL_law 1221 = .ok (.aload_n 0, 1) := by decide +kernel
theorem dL_law_1222 : decode cL_law 1222 = .ok (.iload 4, 2) := by decide +kernel
theorem dL_law_1224 : decode cL_law 1224 = .ok (.iconst 1, 1) := by decide +kernel
theorem dL_law_1225 : decode cL_law 1225 = .ok (.iadd, 1) := by decide +kernel
theorem dL_law_1226 : decode cL_law 1226 = .ok (.iaload, 1) := by decide +kernel
theorem dL_law_1227 : decode cL_law 1227 = .ok (.aload_n 3, 1) := by decide +kernel
theorem dL_law_1228 : decode cL_law 1228 = .ok (.invokestatic 161, 3) := by decide +kernel
theorem dL_law_1231 : decode cL_law 1231 = .ok (.istore 5, 2) := by decide +kernel
theorem dL_law_1233 : decode cL_law 1233 = .ok (.aload_n 2, 1) := by decide +kernel
theorem dL_law_1234 : decode cL_law 1234 = .ok (.aload_n 0, 1) := by decide +kernel
theorem dL_law_1235 : decode cL_law 1235 = .ok (.iload 4, 2) := by decide +kernel
theorem dL_law_1237 : decode cL_law 1237 = .ok (.iconst 1, 1) := by decide +kernel
theorem dL_law_1238 : decode cL_law 1238 = .ok (.iadd, 1) := by decide +kernel
theorem dL_law_1239 : decode cL_law 1239 = .ok (.iaload, 1) := by decide +kernel
theorem dL_law_1240 : decode cL_law 1240 = .ok (.invokevirtual 163, 3) := by decide +kernel
theorem dL_law_1243 : decode cL_law 1243 = .ok (.istore 6, 2) := by decide +kernel
theorem dL_law_1245 : decode cL_law 1245 = .ok (.aload_n 2, 1) := by decide +kernel
theorem dL_law_1246 : decode cL_law 1246 = .ok (.invokevirtual 94, 3) := by decide +kernel
theorem dL_law_1249 : decode cL_law 1249 = .ok (.iload 5, 2) := by decide +kernel
theorem dL_law_1251 : decode cL_law 1251 = .ok (.if_icmp .eq 5, 3) := by decide +kernel
theorem dL_law_1254 : decode cL_law 1254 = .ok (.iconst 0, 1) := by decide +kernel
theorem dL_law_1255 : decode cL_law 1255 = .ok (.ireturn, 1) := by decide +kernel
theorem dL_law_1256 : decode cL_law 1256 = .ok (.iload 5, 2) := by decide +kernel
theorem dL_law_1258 : decode cL_law 1258 = .ok (.ifCond .ne 15, 3) := by decide +kernel
theorem dL_law_1261 : decode cL_law 1261 = .ok (.aload_n 3, 1) := by decide +kernel
theorem dL_law_1262 : decode cL_law 1262 = .ok (.iconst 0, 1) := by decide +kernel
theorem dL_law_1263 : decode cL_law 1263 = .ok (.laload, 1) := by decide +kernel
theorem dL_law_1264 : decode cL_law 1264 = .ok (.iload 6, 2) := by decide +kernel
theorem dL_law_1266 : decode cL_law 1266 = .ok (.i2l, 1) := by decide +kernel
theorem dL_law_1267 : decode cL_law 1267 = .ok (.lcmp, 1) := by decide +kernel
theorem dL_law_1268 : decode cL_law 1268 = .ok (.ifCond .eq 5, 3) := by decide +kernel
theorem dL_law_1271 : decode cL_law 1271 = .ok (.iconst 0, 1) := by decide +kernel
theorem dL_law_1272 : decode cL_law 1272 = .ok (.ireturn, 1) := by decide +kernel
theorem dL_law_1273 : decode cL_law 1273 = .ok (.goto 375, 3) := by decide +kernel
theorem dL_law_1276 : decode cL_law 1276 = .ok (.aload_n 1, 1) := by decide +kernel
theorem dL_law_1277 : decode cL_law 1277 = .ok (.aload_n 0, 1) := by decide +kernel
theorem dL_law_1278 : decode cL_law 1278 = .ok (.iload 4, 2) := by decide +kernel
theorem dL_law_1280 : decode cL_law 1280 = .ok (.iconst 1, 1) := by decide +kernel
theorem dL_law_1281 : decode cL_law 1281 = .ok (.iadd, 1) := by decide +kernel
theorem dL_law_1282 : decode cL_law 1282 = .ok (.iaload, 1) := by decide +kernel
theorem dL_law_1283 : decode cL_law 1283 = .ok (.aload_n 3, 1) := by decide +kernel
theorem dL_law_1284 : decode cL_law 1284 = .ok (.invokestatic 164, 3) := by decide +kernel
theorem dL_law_1287 : decode cL_law 1287 = .ok (.istore 5, 2) := by decide +kernel
theorem dL_law_1289 : decode cL_law 1289 = .ok (.aload_n 2, 1) := by decide +kernel
theorem dL_law_1290 : decode cL_law 1290 = .ok (.aload_n 0, 1) := by decide +kernel
theorem dL_law_1291 : decode cL_law 1291 = .ok (.iload 4, 2) := by decide +kernel
theorem dL_law_1293 : decode cL_law 1293 = .ok (.iconst 1, 1) := by decide +kernel
theorem dL_law_1294 : decode cL_law 1294 = .ok (.iadd, 1) := by decide +kernel
theorem dL_law_1295 : decode cL_law 1295 = .ok (.iaload, 1) := by decide +kernel
theorem dL_law_1296 : decode cL_law 1296 = .ok (.invokevirtual 166, 3) := by decide +kernel
theorem dL_law_1299 : decode cL_law 1299 = .ok (.istore 6, 2) := by decide +kernel
theorem dL_law_1301 : decode cL_law 1301 = .ok (.aload_n 2, 1) := by decide +kernel
theorem dL_law_1302 : decode cL_law 1302 = .ok (.invokevirtual 94, 3) := by decide +kernel
theorem dL_law_1305 : decode cL_law 1305 = .ok (.iload 5, 2) := by decide +kernel
theorem dL_law_1307 : decode cL_law 1307 = .ok (.if_icmp .eq 5, 3) := by decide +kernel
theorem dL_law_1310 : decode cL_law 1310 = .ok (.iconst 0, 1) := by decide +kernel
theorem dL_law_1311 : decode cL_law 1311 = .ok (.ireturn, 1) := by decide +kernel
theorem dL_law_1312 : decode cL_law 1312 = .ok (.iload 5, 2) := by decide +kernel
theorem dL_law_1314 : decode cL_law 1314 = .ok (.ifCond .ne 15, 3) := by decide +kernel
theorem dL_law_1317 : decode cL_law 1317 = .ok (.aload_n 3, 1) := by decide +kernel
theorem dL_law_1318 : decode cL_law 1318 = .ok (.iconst 0, 1) := by decide +kernel
theorem dL_law_1319 : decode cL_law 1319 = .ok (.laload, 1) := by decide +kernel
theorem dL_law_1320 : decode cL_law 1320 = .ok (.iload 6, 2) := by decide +kernel
theorem dL_law_1322 : decode cL_law 1322 = .ok (.i2l, 1) := by decide +kernel
theorem dL_law_1323 : decode cL_law 1323 = .ok (.lcmp, 1) := by decide +kernel
theorem dL_law_1324 : decode cL_law 1324 = .ok (.ifCond .eq 5, 3) := by decide +kernel
theorem dL_law_1327 : decode cL_law 1327 = .ok (.iconst 0, 1) := by decide +kernel
theorem dL_law_1328 : decode cL_law 1328 = .ok (.ireturn, 1) := by decide +kernel
theorem dL_law_1329 : decode cL_law 1329 = .ok (.goto 319, 3) := by decide +kernel
theorem dL_law_1332 : decode cL_law 1332 = .ok (.aload_n 1, 1) := by decide +kernel
theorem dL_law_1333 : decode cL_law 1333 = .ok (.aload_n 0, 1) := by decide +kernel
theorem dL_law_1334 : decode cL_law 1334 = .ok (.iload 4, 2) := by decide +kernel
theorem dL_law_1336 : decode cL_law 1336 = .ok (.iconst 1, 1) := by decide +kernel
theorem dL_law_1337 : decode cL_law 1337 = .ok (.iadd, 1) := by decide +kernel
theorem dL_law_1338 : decode cL_law 1338 = .ok (.iaload, 1) := by decide +kernel
theorem dL_law_1339 : decode cL_law 1339 = .ok (.aload_n 0, 1) := by decide +kernel
theorem dL_law_1340 : decode cL_law 1340 = .ok (.iload 4, 2) := by decide +kernel
theorem dL_law_1342 : decode cL_law 1342 = .ok (.iconst 2, 1) := by decide +kernel
theorem dL_law_1343 : decode cL_law 1343 = .ok (.iadd, 1) := by decide +kernel
theorem dL_law_1344 : decode cL_law 1344 = .ok (.iaload, 1) := by decide +kernel
theorem dL_law_1345 : decode cL_law 1345 = .ok (.aload_n 3, 1) := by decide +kernel
theorem dL_law_1346 : decode cL_law 1346 = .ok (.invokestatic 167, 3) := by decide +kernel
theorem dL_law_1349 : decode cL_law 1349 = .ok (.istore 5, 2) := by decide +kernel
theorem dL_law_1351 : decode cL_law 1351 = .ok (.aload_n 2, 1) := by decide +kernel
theorem dL_law_1352 : decode cL_law 1352 = .ok (.aload_n 0, 1) := by decide +kernel
theorem dL_law_1353 : decode cL_law 1353 = .ok (.iload 4, 2) := by decide +kernel
theorem dL_law_1355 : decode cL_law 1355 = .ok (.iconst 1, 1) := by decide +kernel
theorem dL_law_1356 : decode cL_law 1356 = .ok (.iadd, 1) := by decide +kernel
theorem dL_law_1357 : decode cL_law 1357 = .ok (.iaload, 1) := by decide +kernel
theorem dL_law_1358 : decode cL_law 1358 = .ok (.aload_n 0, 1) := by decide +kernel
theorem dL_law_1359 : decode cL_law 1359 = .ok (.iload 4, 2) := by decide +kernel
theorem dL_law_1361 : decode cL_law 1361 = .ok (.iconst 2, 1) := by decide +kernel
theorem dL_law_1362 : decode cL_law 1362 = .ok (.iadd, 1) := by decide +kernel
theorem dL_law_1363 : decode cL_law 1363 = .ok (.iaload, 1) := by decide +kernel
theorem dL_law_1364 : decode cL_law 1364 = .ok (.invokevirtual 169, 3) := by decide +kernel
theorem dL_law_1367 : decode cL_law 1367 = .ok (.istore 6, 2) := by decide +kernel
theorem dL_law_1369 : decode cL_law 1369 = .ok (.aload_n 2, 1) := by decide +kernel
theorem dL_law_1370 : decode cL_law 1370 = .ok (.invokevirtual 94, 3) := by decide +kernel
theorem dL_law_1373 : decode cL_law 1373 = .ok (.iload 5, 2) := by decide +kernel
theorem dL_law_1375 : decode cL_law 1375 = .ok (.if_icmp .eq 5, 3) := by decide +kernel
theorem dL_law_1378 : decode cL_law 1378 = .ok (.iconst 0, 1) := by decide +kernel
theorem dL_law_1379 : decode cL_law 1379 = .ok (.ireturn, 1) := by decide +kernel
theorem dL_law_1380 : decode cL_law 1380 = .ok (.iload 5, 2) := by decide +kernel
theorem dL_law_1382 : decode cL_law 1382 = .ok (.ifCond .ne 15, 3) := by decide +kernel
theorem dL_law_1385 : decode cL_law 1385 = .ok (.aload_n 3, 1) := by decide +kernel
theorem dL_law_1386 : decode cL_law 1386 = .ok (.iconst 0, 1) := by decide +kernel
theorem dL_law_1387 : decode cL_law 1387 = .ok (.laload, 1) := by decide +kernel
theorem dL_law_1388 : decode cL_law 1388 = .ok (.iload 6, 2) := by decide +kernel
theorem dL_law_1390 : decode cL_law 1390 = .ok (.i2l, 1) := by decide +kernel
theorem dL_law_1391 : decode cL_law 1391 = .ok (.lcmp, 1) := by decide +kernel
theorem dL_law_1392 : decode cL_law 1392 = .ok (.ifCond .eq 5, 3) := by decide +kernel
theorem dL_law_1395 : decode cL_law 1395 = .ok (.iconst 0, 1) := by decide +kernel
theorem dL_law_1396 : decode cL_law 1396 = .ok (.ireturn, 1) := by decide +kernel
theorem dL_law_1397 : decode cL_law 1397 = .ok (.goto 251, 3) := by decide +kernel
theorem dL_law_1400 : decode cL_law 1400 = .ok (.aload_n 1, 1) := by decide +kernel
theorem dL_law_1401 : decode cL_law 1401 = .ok (.invokevirtual 170, 3) := by decide +kernel
theorem dL_law_1404 : decode cL_law 1404 = .ok (.aload_n 2, 1) := by decide +kernel
theorem dL_law_1405 : decode cL_law 1405 = .ok (.invokevirtual 173, 3) := by decide +kernel
theorem dL_law_1408 : decode cL_law 1408 = .ok (.if_icmp .eq 240, 3) := by decide +kernel
theorem dL_law_1411 : decode cL_law 1411 = .ok (.iconst 0, 1) := by decide +kernel
theorem dL_law_1412 : decode cL_law 1412 = .ok (.ireturn, 1) := by decide +kernel
theorem dL_law_1413 : decode cL_law 1413 = .ok (.aload_n 1, 1) := by decide +kernel
theorem dL_law_1414 : decode cL_law 1414 = .ok (.aload_n 0, 1) := by decide +kernel
theorem dL_law_1415 : decode cL_law 1415 = .ok (.iload 4, 2) := by decide +kernel
theorem dL_law_1417 : decode cL_law 1417 = .ok (.iconst 1, 1) := by decide +kernel
theorem dL_law_1418 : decode cL_law 1418 = .ok (.iadd, 1) := by decide +kernel
theorem dL_law_1419 : decode cL_law 1419 = .ok (.iaload, 1) := by decide +kernel
theorem dL_law_1420 : decode cL_law 1420 = .ok (.aload_n 3, 1) := by decide +kernel
theorem dL_law_1421 : decode cL_law 1421 = .ok (.invokestatic 174, 3) := by decide +kernel
theorem dL_law_1424 : decode cL_law 1424 = .ok (.istore 5, 2) := by decide +kernel
theorem dL_law_1426 : decode cL_law 1426 = .ok (.aload_n 2, 1) := by decide +kernel
theorem dL_law_1427 : decode cL_law 1427 = .ok (.aload_n 0, 1) := by decide +kernel
theorem dL_law_1428 : decode cL_law 1428 = .ok (.iload 4, 2) := by decide +kernel
theorem dL_law_1430 : decode cL_law 1430 = .ok (.iconst 1, 1) := by decide +kernel
theorem dL_law_1431 : decode cL_law 1431 = .ok (.iadd, 1) := by decide +kernel
theorem dL_law_1432 : decode cL_law 1432 = .ok (.iaload, 1) := by decide +kernel
theorem dL_law_1433 : decode cL_law 1433 = .ok (.invokevirtual 176, 3) := by decide +kernel
theorem dL_law_1436 : decode cL_law 1436 = .ok (.istore 6, 2) := by decide +kernel
theorem dL_law_1438 : decode cL_law 1438 = .ok (.aload_n 2, 1) := by decide +kernel
theorem dL_law_1439 : decode cL_law 1439 = .ok (.invokevirtual 94, 3) := by decide +kernel
theorem dL_law_1442 : decode cL_law 1442 = .ok (.iload 5, 2) := by decide +kernel
theorem dL_law_1444 : decode cL_law 1444 = .ok (.if_icmp .eq 5, 3) := by decide +kernel
theorem dL_law_1447 : decode cL_law 1447 = .ok (.iconst 0, 1) := by decide +kernel
theorem dL_law_1448 : decode cL_law 1448 = .ok (.ireturn, 1) := by decide +kernel
theorem dL_law_1449 : decode cL_law 1449 = .ok (.iload 5, 2) := by decide +kernel
theorem dL_law_1451 : decode cL_law 1451 = .ok (.ifCond .ne 15, 3) := by decide +kernel
theorem dL_law_1454 : decode cL_law 1454 = .ok (.aload_n 3, 1) := by decide +kernel
theorem dL_law_1455 : decode cL_law 1455 = .ok (.iconst 0, 1) := by decide +kernel
theorem dL_law_1456 : decode cL_law 1456 = .ok (.laload, 1) := by decide +kernel
theorem dL_law_1457 : decode cL_law 1457 = .ok (.iload 6, 2) := by decide +kernel
theorem dL_law_1459 : decode cL_law 1459 = .ok (.i2l, 1) := by decide +kernel
theorem dL_law_1460 : decode cL_law 1460 = .ok (.lcmp, 1) := by decide +kernel
theorem dL_law_1461 : decode cL_law 1461 = .ok (.ifCond .eq 5, 3) := by decide +kernel
theorem dL_law_1464 : decode cL_law 1464 = .ok (.iconst 0, 1) := by decide +kernel
theorem dL_law_1465 : decode cL_law 1465 = .ok (.ireturn, 1) := by decide +kernel
theorem dL_law_1466 : decode cL_law 1466 = .ok (.goto 182, 3) := by decide +kernel
theorem dL_law_1469 : decode cL_law 1469 = .ok (.aload_n 1, 1) := by decide +kernel
theorem dL_law_1470 : decode cL_law 1470 = .ok (.aload_n 0, 1) := by decide +kernel
theorem dL_law_1471 : decode cL_law 1471 = .ok (.iload 4, 2) := by decide +kernel
theorem dL_law_1473 : decode cL_law 1473 = .ok (.iconst 1, 1) := by decide +kernel
theorem dL_law_1474 : decode cL_law 1474 = .ok (.iadd, 1) := by decide +kernel
theorem dL_law_1475 : decode cL_law 1475 = .ok (.iaload, 1) := by decide +kernel
theorem dL_law_1476 : decode cL_law 1476 = .ok (.aload_n 0, 1) := by decide +kernel
theorem dL_law_1477 : decode cL_law 1477 = .ok (.iload 4, 2) := by decide +kernel
theorem dL_law_1479 : decode cL_law 1479 = .ok (.iconst 2, 1) := by decide +kernel
theorem dL_law_1480 : decode cL_law 1480 = .ok (.iadd, 1) := by decide +kernel
theorem dL_law_1481 : decode cL_law 1481 = .ok (.iaload, 1) := by decide +kernel
theorem dL_law_1482 : decode cL_law 1482 = .ok (.aload_n 3, 1) := by decide +kernel
theorem dL_law_1483 : decode cL_law 1483 = .ok (.invokestatic 177, 3) := by decide +kernel
theorem dL_law_1486 : decode cL_law 1486 = .ok (.istore 5, 2) := by decide +kernel
theorem dL_law_1488 : decode cL_law 1488 = .ok (.aload_n 2, 1) := by decide +kernel
theorem dL_law_1489 : decode cL_law 1489 = .ok (.aload_n 0, 1) := by decide +kernel
theorem dL_law_1490 : decode cL_law 1490 = .ok (.iload 4, 2) := by decide +kernel
theorem dL_law_1492 : decode cL_law 1492 = .ok (.iconst 1, 1) := by decide +kernel
theorem dL_law_1493 : decode cL_law 1493 = .ok (.iadd, 1) := by decide +kernel
theorem dL_law_1494 : decode cL_law 1494 = .ok (.iaload, 1) := by decide +kernel
theorem dL_law_1495 : decode cL_law 1495 = .ok (.aload_n 0, 1) := by decide +kernel
theorem dL_law_1496 : decode cL_law 1496 = .ok (.iload 4, 2) := by decide +kernel
theorem dL_law_1498 : decode cL_law 1498 = .ok (.iconst 2, 1) := by decide +kernel
theorem dL_law_1499 : decode cL_law 1499 = .ok (.iadd, 1) := by decide +kernel
theorem dL_law_1500 : decode cL_law 1500 = .ok (.iaload, 1) := by decide +kernel
theorem dL_law_1501 : decode cL_law 1501 = .ok (.invokevirtual 179, 3) := by decide +kernel
theorem dL_law_1504 : decode cL_law 1504 = .ok (.istore 6, 2) := by decide +kernel
theorem dL_law_1506 : decode cL_law 1506 = .ok (.aload_n 2, 1) := by decide +kernel
theorem dL_law_1507 : decode cL_law 1507 = .ok (.invokevirtual 94, 3) := by decide +kernel
theorem dL_law_1510 : decode cL_law 1510 = .ok (.iload 5, 2) := by decide +kernel
theorem dL_law_1512 : decode cL_law 1512 = .ok (.if_icmp .eq 5, 3) := by decide +kernel
theorem dL_law_1515 : decode cL_law 1515 = .ok (.iconst 0, 1) := by decide +kernel
theorem dL_law_1516 : decode cL_law 1516 = .ok (.ireturn, 1) := by decide +kernel
theorem dL_law_1517 : decode cL_law 1517 = .ok (.iload 5, 2) := by decide +kernel
theorem dL_law_1519 : decode cL_law 1519 = .ok (.ifCond .ne 15, 3) := by decide +kernel
theorem dL_law_1522 : decode cL_law 1522 = .ok (.aload_n 3, 1) := by decide +kernel
theorem dL_law_1523 : decode cL_law 1523 = .ok (.iconst 0, 1) := by decide +kernel
theorem dL_law_1524 : decode cL_law 1524 = .ok (.laload, 1) := by decide +kernel
theorem dL_law_1525 : decode cL_law 1525 = .ok (.iload 6, 2) := by decide +kernel
theorem dL_law_1527 : decode cL_law 1527 = .ok (.i2l, 1) := by decide +kernel
theorem dL_law_1528 : decode cL_law 1528 = .ok (.lcmp, 1) := by decide +kernel
theorem dL_law_1529 : decode cL_law 1529 = .ok (.ifCond .eq 5, 3) := by decide +kernel
theorem dL_law_1532 : decode cL_law 1532 = .ok (.iconst 0, 1) := by decide +kernel
theorem dL_law_1533 : decode cL_law 1533 = .ok (.ireturn, 1) := by decide +kernel
theorem dL_law_1534 : decode cL_law 1534 = .ok (.goto 114, 3) := by decide +kernel
theorem dL_law_1537 : decode cL_law 1537 = .ok (.aload_n 1, 1) := by decide +kernel
theorem dL_law_1538 : decode cL_law 1538 = .ok (.aload_n 0, 1) := by decide +kernel
theorem dL_law_1539 : decode cL_law 1539 = .ok (.iload 4, 2) := by decide +kernel
theorem dL_law_1541 : decode cL_law 1541 = .ok (.iconst 1, 1) := by decide +kernel
theorem dL_law_1542 : decode cL_law 1542 = .ok (.iadd, 1) := by decide +kernel
theorem dL_law_1543 : decode cL_law 1543 = .ok (.iaload, 1) := by decide +kernel
theorem dL_law_1544 : decode cL_law 1544 = .ok (.aload_n 3, 1) := by decide +kernel
theorem dL_law_1545 : decode cL_law 1545 = .ok (.invokestatic 180, 3) := by decide +kernel
theorem dL_law_1548 : decode cL_law 1548 = .ok (.istore 5, 2) := by decide +kernel
theorem dL_law_1550 : decode cL_law 1550 = .ok (.aload_n 2, 1) := by decide +kernel
theorem dL_law_1551 : decode cL_law 1551 = .ok (.aload_n 0, 1) := by decide +kernel
theorem dL_law_1552 : decode cL_law 1552 = .ok (.iload 4, 2) := by decide +kernel
theorem dL_law_1554 : decode cL_law 1554 = .ok (.iconst 1, 1) := by decide +kernel
theorem dL_law_1555 : decode cL_law 1555 = .ok (.iadd, 1) := by decide +kernel
theorem dL_law_1556 : decode cL_law 1556 = .ok (.iaload, 1) := by decide +kernel
theorem dL_law_1557 : decode cL_law 1557 = .ok (.invokevirtual 182, 3) := by decide +kernel
theorem dL_law_1560 : decode cL_law 1560 = .ok (.istore 6, 2) := by decide +kernel
theorem dL_law_1562 : decode cL_law 1562 = .ok (.aload_n 2, 1) := by decide +kernel
theorem dL_law_1563 : decode cL_law 1563 = .ok (.invokevirtual 94, 3) := by decide +kernel
theorem dL_law_1566 : decode cL_law 1566 = .ok (.iload 5, 2) := by decide +kernel
theorem dL_law_1568 : decode cL_law 1568 = .ok (.if_icmp .eq 5, 3) := by decide +kernel
theorem dL_law_1571 : decode cL_law 1571 = .ok (.iconst 0, 1) := by decide +kernel
theorem dL_law_1572 : decode cL_law 1572 = .ok (.ireturn, 1) := by decide +kernel
theorem dL_law_1573 : decode cL_law 1573 = .ok (.iload 5, 2) := by decide +kernel
theorem dL_law_1575 : decode cL_law 1575 = .ok (.ifCond .ne 15, 3) := by decide +kernel
theorem dL_law_1578 : decode cL_law 1578 = .ok (.aload_n 3, 1) := by decide +kernel
theorem dL_law_1579 : decode cL_law 1579 = .ok (.iconst 0, 1) := by decide +kernel
theorem dL_law_1580 : decode cL_law 1580 = .ok (.laload, 1) := by decide +kernel
theorem dL_law_1581 : decode cL_law 1581 = .ok (.iload 6, 2) := by decide +kernel
theorem dL_law_1583 : decode cL_law 1583 = .ok (.i2l, 1) := by decide +kernel
theorem dL_law_1584 : decode cL_law 1584 = .ok (.lcmp, 1) := by decide +kernel
theorem dL_law_1585 : decode cL_law 1585 = .ok (.ifCond .eq 5, 3) := by decide +kernel
theorem dL_law_1588 : decode cL_law 1588 = .ok (.iconst 0, 1) := by decide +kernel
theorem dL_law_1589 : decode cL_law 1589 = .ok (.ireturn, 1) := by decide +kernel
theorem dL_law_1590 : decode cL_law 1590 = .ok (.goto 58, 3) := by decide +kernel
theorem dL_law_1593 : decode cL_law 1593 = .ok (.aload_n 1, 1) := by decide +kernel
theorem dL_law_1594 : decode cL_law 1594 = .ok (.invokevirtual 183, 3) := by decide +kernel
theorem dL_law_1597 : decode cL_law 1597 = .ok (.dstore 5, 2) := by decide +kernel
theorem dL_law_1599 : decode cL_law 1599 = .ok (.aload_n 2, 1) := by decide +kernel
theorem dL_law_1600 : decode cL_law 1600 = .ok (.invokevirtual 187, 3) := by decide +kernel
theorem dL_law_1603 : decode cL_law 1603 = .ok (.dstore 7, 2) := by decide +kernel
theorem dL_law_1605 : decode cL_law 1605 = .ok (.dload 5, 2) := by decide +kernel
theorem dL_law_1607 : decode cL_law 1607 = .ok (.dload 7, 2) := by decide +kernel
theorem dL_law_1609 : decode cL_law 1609 = .ok (.dcmp .l, 1) := by decide +kernel
theorem dL_law_1610 : decode cL_law 1610 = .ok (.ifCond .eq 21, 3) := by decide +kernel
theorem dL_law_1613 : decode cL_law 1613 = .ok (.dload 5, 2) := by decide +kernel
theorem dL_law_1615 : decode cL_law 1615 = .ok (.dload 5, 2) := by decide +kernel
theorem dL_law_1617 : decode cL_law 1617 = .ok (.dcmp .l, 1) := by decide +kernel
theorem dL_law_1618 : decode cL_law 1618 = .ok (.ifCond .eq 11, 3) := by decide +kernel
theorem dL_law_1621 : decode cL_law 1621 = .ok (.dload 7, 2) := by decide +kernel
theorem dL_law_1623 : decode cL_law 1623 = .ok (.dload 7, 2) := by decide +kernel
theorem dL_law_1625 : decode cL_law 1625 = .ok (.dcmp .l, 1) := by decide +kernel
theorem dL_law_1626 : decode cL_law 1626 = .ok (.ifCond .ne 5, 3) := by decide +kernel
theorem dL_law_1629 : decode cL_law 1629 = .ok (.iconst 0, 1) := by decide +kernel
theorem dL_law_1630 : decode cL_law 1630 = .ok (.ireturn, 1) := by decide +kernel
theorem dL_law_1631 : decode cL_law 1631 = .ok (.goto 17, 3) := by decide +kernel
theorem dL_law_1634 : decode cL_law 1634 = .ok (.aload_n 1, 1) := by decide +kernel
theorem dL_law_1635 : decode cL_law 1635 = .ok (.invokevirtual 188, 3) := by decide +kernel
theorem dL_law_1638 : decode cL_law 1638 = .ok (.aload_n 2, 1) := by decide +kernel
theorem dL_law_1639 : decode cL_law 1639 = .ok (.invokevirtual 192, 3) := by decide +kernel
theorem dL_law_1642 : decode cL_law 1642 = .ok (.lcmp, 1) := by decide +kernel
theorem dL_law_1643 : decode cL_law 1643 = .ok (.ifCond .eq 5, 3) := by decide +kernel
theorem dL_law_1646 : decode cL_law 1646 = .ok (.iconst 0, 1) := by decide +kernel
theorem dL_law_1647 : decode cL_law 1647 = .ok (.ireturn, 1) := by decide +kernel
theorem dL_law_1648 : decode cL_law 1648 = .ok (.iinc 4 8, 3) := by decide +kernel
theorem dL_law_1651 : decode cL_law 1651 = .ok (.goto (-1628), 3) := by decide +kernel
theorem dL_law_1654 : decode cL_law 1654 = .ok (.iconst 1, 1) := by decide +kernel
theorem dL_law_1655 : decode cL_law 1655 = .ok (.ireturn, 1) := by decide +kernel
end
section
/-! THE PRELUDE: one list of words for all contracts; three kinds of contract (zR: reads alone; zW: writes its world; zX: may throw); rows for fields, calls, ends. -/
def lw_all : List Cond := lw_tbl.filter goodWord
theorem lw_all_tbl {w : Cond} (h : w ∈ lw_all) : w ∈ lw_tbl := (List.mem_filter.mp h).1
theorem lw_all_good {w : Cond} (h : w ∈ lw_all) : goodWord w = true := (List.mem_filter.mp h).2
theorem mt0 {w : Cond} (i : Nat) (h : (k2_sels lw_privs)[i]? = some w) (g : goodWord w = true) : w ∈ lw_all := List.mem_filter.mpr ⟨List.mem_append_left _ (List.mem_of_getElem? h), g⟩
theorem mt1 {w : Cond} (i : Nat) (h : tables_1_1[i]? = some w) (g : goodWord w = true) : w ∈ lw_all := List.mem_filter.mpr ⟨List.mem_append_right _ (List.mem_append_left _ (List.mem_of_getElem? h)), g⟩
theorem mt2 {w : Cond} (i : Nat) (h : tables_1_2[i]? = some w) (g : goodWord w = true) : w ∈ lw_all := List.mem_filter.mpr ⟨List.mem_append_right _ (List.mem_append_right _ (List.mem_append_left _ (List.mem_of_getElem? h))), g⟩
theorem mt3 {w : Cond} (i : Nat) (h : tables_1_3[i]? = some w) (g : goodWord w = true) : w ∈ lw_all := List.mem_filter.mpr ⟨List.mem_append_right _ (List.mem_append_right _ (List.mem_append_right _ (List.mem_append_left _ (List.mem_of_getElem? h)))), g⟩
theorem mt4 {w : Cond} (i : Nat) (h : tables_1_4[i]? = some w) (g : goodWord w = true) : w ∈ lw_all := List.mem_filter.mpr ⟨List.mem_append_right _ (List.mem_append_right _ (List.mem_append_right _ (List.mem_append_right _ (List.mem_append_left _ (List.mem_of_getElem? h))))), g⟩
theorem mt5 {w : Cond} (i : Nat) (h : tables_1_5[i]? = some w) (g : goodWord w = true) : w ∈ lw_all := List.mem_filter.mpr ⟨List.mem_append_right _ (List.mem_append_right _ (List.mem_append_right _ (List.mem_append_right _ (List.mem_append_right _ (List.mem_append_left _ (List.mem_of_getElem? h)))))), g⟩
theorem mt6 {w : Cond} (i : Nat) (h : tables_1_6[i]? = some w) (g : goodWord w = true) : w ∈ lw_all := List.mem_filter.mpr ⟨List.mem_append_right _ (List.mem_append_right _ (List.mem_append_right _ (List.mem_append_right _ (List.mem_append_right _ (List.mem_append_right _ (List.mem_of_getElem? h)))))), g⟩
def ws_ (y : MethodName) (c : ByteArray) (n : Nat) (r : Option FieldType) : List Cond := .code y c n r :: lw_all
theorem ws_good {w : Cond} (h : w ∈ lw_all) : GoodIn lw_all (w :: lw_all) := fun v hv => by
  have hm : v ∈ lw_all := (List.mem_cons.mp hv).elim (fun e => e ▸ h) id
  exact ⟨hm, good_of_word (lw_all_good hm)⟩
theorem ws_in {args : Array Value} {s : State} {w : Cond} (h : ∀ v ∈ w :: lw_all, v.before args s = true) : ∀ v ∈ lw_all, v.before args s = true := fun v hv => h v (List.mem_cons_of_mem _ hv)
/-- the law's own start, of which the Statement speaks -/
def zS (s0 : State) : Prop := ∃ a0 : Array Value, (∀ w ∈ lw_tbl, w.before a0 s0 = true) ∧ (Jvm.Cond.and given_1 narrow_1).before a0 s0 = true
/-- nothing that was there at the law's start has changed, and none of it may be written -/
def zG (s0 : State) (A : Nat → Prop) (U : State) (H : Heap) : Prop := s0.WarmedH U.vm ∧ (∀ q : Nat, A q → s0.heap.size ≤ q) ∧ s0.heap.size ≤ H.size ∧ ∀ q : Nat, q < s0.heap.size → H[q]? = s0.heap[q]?
theorem zG.kept {s0 U : State} {A : Nat → Prop} {H H1 : Heap} (h : zG s0 A U H) (z : H.size ≤ H1.size) (hq : ∀ q : Nat, q < H.size → ¬ A q → H1[q]? = H[q]?) : zG s0 A U H1 :=
  ⟨h.1, h.2.1, Nat.le_trans h.2.2.1 z, fun q hl => (hq q (Nat.lt_of_lt_of_le hl h.2.2.1) (fun ha => absurd (h.2.1 q ha) (Nat.not_le.mpr hl))).trans (h.2.2.2 q hl)⟩
theorem zG.narrow {s0 U : State} {A B : Nat → Prop} {H : Heap} (h : zG s0 A U H) (hB : ∀ q, B q → A q) : zG s0 B U H := ⟨h.1, fun q hq => h.2.1 q (hB q hq), h.2.2⟩
theorem zG.warm {s0 U V : State} {A : Nat → Prop} {H : Heap} (h : zG s0 A U H) (hW : U.WarmedH V.vm) : zG s0 A V H := ⟨State.WarmedH.trans h.1 hW, h.2⟩
theorem zG.none {s0 U : State} {A : Nat → Prop} {H : Heap} (h : zG s0 A U H) : zG s0 (fun _ => False) U H := h.narrow (fun _ hf => hf.elim)
abbrev zr (k mc ms : Nat) : Room := { frames := k, cells := mc, slots := ms, locals := 40 * k }
/-- what holds in a method's body of its frame and of the tables -/
def zC (D : va_G) (tys : List (ClassId × FieldType)) (p : Program) (s : State) (m : MethodId) (args : Array Value) (meth : Method) (c : Code) (cc : ByteArray) (own : String) (rt : Option FieldType) (nL : Nat) : Prop :=
  p.tables.exec = Jvm.exec ∧ c.code = cc ∧ (∀ w ∈ lw_all, w.before args s = true) ∧ s.vm.findClass own = some m.cls ∧ meth.sig.returnType = rt ∧ c.maxLocals = nL ∧ meth.locks = false ∧ va_K D vwCl tys s
-- ===== contracts =====
def zQr {S : Type} (rv : S → Option Value) (post : S → Prop) : Array Value → State → Outcome → State → Prop := fun _ st oc t => ∃ u : S, oc = .returned (rv u) ∧ post u ∧ t.heap = st.heap
def zQ {S : Type} (D : va_G) (rv : S → Option Value) (post : S → Prop) (w1 : S → va_W) (A : Nat → Prop) : Array Value → State → Outcome → State → Prop := fun _ st oc t => (∃ u : S, oc = .returned (rv u) ∧ post u ∧ va_P D vwCl (w1 u) t.heap ∧ va_D A (w1 u)) ∧ va_F A st t
def zXC (D : va_G) (px : String → Prop) (w0 : va_W) (A : Nat → Prop) : String → State → State → Prop := fun E st t => px E ∧ va_P D vwCl w0 t.heap ∧ va_F A st t
def zPr (s0 : State) (D : va_G) (tys : List (ClassId × FieldType)) (args : List Value) (w : va_W) : Array Value → State → Prop := va_Pc args (fun U => va_P D vwCl w U.heap ∧ va_K D vwCl tys U ∧ zG s0 (fun _ => False) U U.heap)
def zPw (s0 : State) (D : va_G) (tys : List (ClassId × FieldType)) (args : List Value) (w : va_W) (sz : Nat) : Array Value → State → Prop := va_Pc args (fun U => U.heap.size = sz ∧ va_P D vwCl w U.heap ∧ va_K D vwCl tys U ∧ va_D (fun _ => True) w ∧ zG s0 (va_A w sz) U U.heap)
/-- a method that reads its world and leaves the heap as it is -/
def zR (s0 : State) (l : Launch) (D : va_G) (tys : List (ClassId × FieldType)) (y : MethodName) (c : ByteArray) (n : Nat) (rt : Option FieldType) (k : Nat) (args : List Value) (w : va_W) {S : Type} (rv : S → Option Value) (post : S → Prop) : Prop :=
  Met l y (ws_ y c n rt) (zr k 0 0) (zPr s0 D tys args w) (zQr rv post) 0 0 (fun _ => False)
/-- a method that turns the world w0 into w1 u -/
def zW (s0 : State) (l : Launch) (D : va_G) (tys : List (ClassId × FieldType)) (y : MethodName) (c : ByteArray) (n : Nat) (rt : Option FieldType) (k mc ms : Nat) (args : List Value) (w0 : va_W) {S : Type} (rv : S → Option Value) (post : S → Prop) (w1 : S → va_W) : Prop :=
  ∀ sz : Nat, Met l y (ws_ y c n rt) (zr k mc ms) (zPw s0 D tys args w0 sz) (zQ D rv post w1 (va_A w0 sz)) mc ms (va_A w0 sz)
/-- one that may throw, and then has left its world as it was -/
def zX (s0 : State) (l : Launch) (D : va_G) (tys : List (ClassId × FieldType)) (y : MethodName) (c : ByteArray) (n : Nat) (rt : Option FieldType) (k mc ms : Nat) (args : List Value) (w0 : va_W) {S : Type} (rv : S → Option Value) (post : S → Prop) (w1 : S → va_W) (px : String → Prop) : Prop :=
  ∀ sz : Nat, vx_Met l y (ws_ y c n rt) (zr k mc ms) (zPw s0 D tys args w0 sz) (zQ D rv post w1 (va_A w0 sz)) (zXC D px w0 (va_A w0 sz)) mc ms (va_A w0 sz)
theorem zPr_blind {s0 : State} {D : va_G} {tys : List (ClassId × FieldType)} {args : List Value} {w : va_W} : FrameBlind (zPr s0 D tys args w) := fun a U g mk q => by
  obtain ⟨q0, q1, q2, q3⟩ := q
  exact ⟨q0, q1, va_K.moved (u := U) (U := U.calling g mk a) (Vm.Alike.refl U.vm) q2, q3⟩
theorem zPw_blind {s0 : State} {D : va_G} {tys : List (ClassId × FieldType)} {args : List Value} {w : va_W} {sz : Nat} : FrameBlind (zPw s0 D tys args w sz) := fun a U g mk q => by
  obtain ⟨q0, q1, q2, q3, q4, q5⟩ := q
  exact ⟨q0, q1, q2, va_K.moved (u := U) (U := U.calling g mk a) (Vm.Alike.refl U.vm) q3, q4, q5⟩
section Intro
variable {s0 : State} {l : Launch} {D : va_G} {tys : List (ClassId × FieldType)} {y : MethodName} {cc : ByteArray} {n : Nat} {rt : Option FieldType} {k mc ms : Nat} {al : List Value} {w0 : va_W}
theorem zR_intro {S : Type} {rv : S → Option Value} {post : S → Prop} (hy : plainName y.cls = true) (ha : (lg_sl al).length ≤ n)
    (body : ∀ (p : Program) (e : Env) (s : State) (m : MethodId) (below : List Frame) (meth : Method) (c : Code), zC D tys p s m al.toArray meth c cc y.cls rt n → va_P D vwCl w0 s.heap → zG s0 (fun _ => False) s s.heap →
      ∀ ls : Array Slot, lv_has ls n (lv_args 0 al) → W p l e (zr k 0 0) s m al.toArray below meth c s.heap [] 0 0 (MQ below (zQr rv post) al.toArray s 0 0 (fun _ => False)) (F0 m 0 ls [])) :
    zR s0 l D tys y cc n rt k al w0 rv post := by
  refine Met.ofW (cc := cc) (maxL := n) (ret := rt) hy rfl ?_
  intro p e s m args below meth c s₁ B hml hv
  obtain ⟨rfl, hP, hK, hG⟩ := hv
  have hts := ws_in (atoms_spec (ws := ws_ y cc n rt) B.pre)
  have hl := lv_entry al (n := n) ha
  rw [lg_entry_eq]
  exact body p e s m below meth c ⟨B.exec, B.bytes, hts, findClass_of_methodNamed B.named, B.returns, hml, B.notSynchronized, hK⟩ hP hG _ hl
theorem zW_intro {S : Type} {rv : S → Option Value} {post : S → Prop} {w1 : S → va_W} (hy : plainName y.cls = true) (ha : (lg_sl al).length ≤ n)
    (body : ∀ (p : Program) (e : Env) (s : State) (m : MethodId) (below : List Frame) (meth : Method) (c : Code) (A : Nat → Prop), zC D tys p s m al.toArray meth c cc y.cls rt n → meth.name = y.name → (∀ q : Nat, s.heap.size ≤ q → A q) → zG s0 A s s.heap → va_P D vwCl w0 s.heap → va_D A w0 → va_S A s.heap s.heap [] →
      ∀ ls : Array Slot, lv_has ls n (lv_args 0 al) → W p l e (zr k mc ms) s m al.toArray below meth c s.heap [] 0 0 (MQ below (zQ D rv post w1 A) al.toArray s mc ms A) (F0 m 0 ls [])) :
    zW s0 l D tys y cc n rt k mc ms al w0 rv post w1 := by
  intro sz
  refine Met.ofW (cc := cc) (maxL := n) (ret := rt) hy rfl ?_
  intro p e s m args below meth c s₁ B hml hv
  obtain ⟨rfl, hsz, hP, hK, hD0, hG⟩ := hv
  subst hsz
  have hts := ws_in (atoms_spec (ws := ws_ y cc n rt) B.pre)
  have hl := lv_entry al (n := n) ha
  rw [lg_entry_eq]
  exact body p e s m below meth c _ ⟨B.exec, B.bytes, hts, findClass_of_methodNamed B.named, B.returns, hml, B.notSynchronized, hK⟩ (name_of_methodNamed B.named B.method).1 (fun q h => Or.inr h) hG hP (hD0.self (sz := s.heap.size)) va_S.rf _ hl
theorem zX_intro {S : Type} {rv : S → Option Value} {post : S → Prop} {w1 : S → va_W} {px : String → Prop} (hy : plainName y.cls = true) (ha : (lg_sl al).length ≤ n)
    (body : ∀ (p : Program) (e : Env) (s : State) (m : MethodId) (below : List Frame) (meth : Method) (c : Code) (A : Nat → Prop), zC D tys p s m al.toArray meth c cc y.cls rt n → (∀ x ∈ c.exceptionTable.toList, False) → (∀ q : Nat, s.heap.size ≤ q → A q) → zG s0 A s s.heap → va_P D vwCl w0 s.heap → va_D A w0 → va_S A s.heap s.heap [] →
      ∀ ls : Array Slot, lv_has ls n (lv_args 0 al) → W p l e (zr k mc ms) s m al.toArray below meth c s.heap [] 0 0 (vx_MQ below (zQ D rv post w1 A) (zXC D px w0 A) al.toArray s mc ms A) (F0 m 0 ls [])) :
    zX s0 l D tys y cc n rt k mc ms al w0 rv post w1 px := by
  intro sz
  refine vx_ofW (cc := cc) (maxL := n) (ret := rt) hy rfl ?_
  intro p e s m args below meth c s₁ B hml hnt hv
  obtain ⟨rfl, hsz, hP, hK, hD0, hG⟩ := hv
  subst hsz
  have hts := ws_in (atoms_spec (ws := ws_ y cc n rt) B.pre)
  have hl := lv_entry al (n := n) ha
  rw [lg_entry_eq]
  exact body p e s m below meth c _ ⟨B.exec, B.bytes, hts, findClass_of_methodNamed B.named, B.returns, hml, B.notSynchronized, hK⟩ hnt (fun q h => Or.inr h) hG hP (hD0.self (sz := s.heap.size)) va_S.rf _ hl
end Intro
end
section
/-! ROWS: fields, arrays, calls, ends, over the prelude's contracts. -/
theorem z_fm {α β : Type} {f : α → Option β} : ∀ (is : List α) (l : List β), is.map f = l.map some → is.filterMap f = l
  | [], [], _ => rfl
  | [], _ :: _, h => by simp at h
  | _ :: _, [], h => by simp at h
  | a :: is, b :: l, h => by
    simp only [List.map_cons, List.cons.injEq] at h
    rw [List.filterMap_cons, h.1]
    exact congrArg (b :: ·) (z_fm is l h.2)
/-- a field, by its place in its class's table: the words of it -/
def zF (own ref : String) (index ci k N : Nat) (Cn : String) (T : u_T) : Prop := (∀ w ∈ u_ws Cn T N, w ∈ lw_all) ∧ vwCl[ci]? = some (Cn, T, N) ∧ k < N ∧ Cond.fieldLink own index ref (T k).2.1 (T k).2.2.1 ∈ lw_all ∧ (T k).1 = ref
/-- what a class's table must be for its fields to be written -/
def zT (N : Nat) (T : u_T) (ty : Nat → FieldType) : Prop := (∀ k, k < N → parseFieldDescriptor (T k).2.2.1 = some (ty k)) ∧ ∀ a, a < N → ∀ b, b < N → a ≠ b → (T a).2.1 ≠ (T b).2.1
/-- a method that is called on an object; statically; a constructor -/
def zV (y : MethodName) (bytes : ByteArray) (maxL : Nat) (ret : Option FieldType) (n : Nat) : Prop := Cond.instanceMethod y ∈ lw_all ∧ Cond.selects y.cls y y ∈ lw_all ∧ Cond.initialized y.cls ∈ lw_all ∧ Cond.code y bytes maxL ret ∈ lw_all ∧ y.cls ≠ "java/lang/invoke/MethodHandle" ∧ y.cls ≠ "java/lang/invoke/VarHandle" ∧ (parseMethodDescriptor y.desc).map (fun d => d.parameters.length) = some n
def zSt (y : MethodName) (bytes : ByteArray) (maxL : Nat) (ret : Option FieldType) (n : Nat) : Prop := Cond.static y ∈ lw_all ∧ Cond.initialized y.cls ∈ lw_all ∧ Cond.code y bytes maxL ret ∈ lw_all ∧ y.cls ≠ "java/lang/invoke/MethodHandle" ∧ y.cls ≠ "java/lang/invoke/VarHandle" ∧ (parseMethodDescriptor y.desc).map (fun d => d.parameters.length) = some n
def zI (y : MethodName) (bytes : ByteArray) (maxL : Nat) (n : Nat) : Prop := Cond.instanceMethod y ∈ lw_all ∧ y.name = "<init>" ∧ Cond.initialized y.cls ∈ lw_all ∧ Cond.code y bytes maxL none ∈ lw_all ∧ y.cls ≠ "java/lang/invoke/MethodHandle" ∧ y.cls ≠ "java/lang/invoke/VarHandle" ∧ (parseMethodDescriptor y.desc).map (fun d => d.parameters.length) = some n
section ZR
variable {s0 : State} {p : Program} {l : Launch} {e : Env} {R : Room} {s : State} {m : MethodId} {args : Array Value} {below : List Frame} {meth : Method} {c : Code} {H : Heap} {locs : List Loc} {cells slots : Nat} {Q : State → Prop}
variable {D : va_G} {tys : List (ClassId × FieldType)} {cc : ByteArray} {own : String} {rt : Option FieldType} {nL : Nat} {pc : Nat} {ls : Array Slot} {rest : List Value} {ws : va_W} {A : Nat → Prop} {a : Nat} {mc ms : Nat}
-- ends
theorem zR_iret {S : Type} {rv : S → Option Value} {post : S → Prop} {v : Int32} (C : zC D tys p s m args meth c cc own (some .int) nL) (u : S) (hv : rv u = some (.int v)) (hp : post u) (hdg : decode cc pc = .ok (.ireturn, 1)) :
    W p l e R s m args below meth c s.heap [] 0 0 (MQ below (zQr rv post) args s 0 0 (fun _ => False)) (F0 m pc ls [.int v]) :=
  W.iret C.1 C.2.1 C.2.2.2.2.1 (fun t ht _ => ⟨u, by rw [hv], hp, ht⟩) (fun q hq => absurd hq List.not_mem_nil) hdg C.2.2.2.2.2.2.1
theorem zR_zret {S : Type} {rv : S → Option Value} {post : S → Prop} {v : Int32} {ty : FieldType} (C : zC D tys p s m args meth c cc own (some ty) nL) (hn : narrow ty (.int v) = .int v) (u : S) (hv : rv u = some (.int v)) (hp : post u) (hdg : decode cc pc = .ok (.ireturn, 1)) :
    W p l e R s m args below meth c s.heap [] 0 0 (MQ below (zQr rv post) args s 0 0 (fun _ => False)) (F0 m pc ls [.int v]) :=
  W.zret C.1 C.2.1 C.2.2.2.2.1 hn (fun t ht _ => ⟨u, by rw [hv], hp, ht⟩) (fun q hq => absurd hq List.not_mem_nil) hdg C.2.2.2.2.2.2.1
theorem zR_vret {S : Type} {rv : S → Option Value} {post : S → Prop} (C : zC D tys p s m args meth c cc own none nL) (u : S) (hv : rv u = none) (hp : post u) (hdg : decode cc pc = .ok (.return_, 1)) :
    W p l e R s m args below meth c s.heap [] 0 0 (MQ below (zQr rv post) args s 0 0 (fun _ => False)) (F0 m pc ls []) :=
  W.vret C.1 C.2.1 C.2.2.2.2.1 (fun t ht _ => ⟨u, by rw [hv], hp, ht⟩) (fun q hq => absurd hq List.not_mem_nil) hdg C.2.2.2.2.2.2.1
theorem zR_dret {S : Type} {rv : S → Option Value} {post : S → Prop} {v : UInt64} (C : zC D tys p s m args meth c cc own (some .double) nL) (u : S) (hv : rv u = some (.double v)) (hp : post u) (hdg : decode cc pc = .ok (.dreturn, 1)) :
    W p l e R s m args below meth c s.heap [] 0 0 (MQ below (zQr rv post) args s 0 0 (fun _ => False)) (F0 m pc ls [.double v]) :=
  W.dret C.1 C.2.1 C.2.2.2.2.1 (fun t ht _ => ⟨u, by rw [hv], hp, ht⟩) (fun q hq => absurd hq List.not_mem_nil) hdg C.2.2.2.2.2.2.1
theorem zW_iret {S : Type} {rv : S → Option Value} {post : S → Prop} {w1 : S → va_W} {v : Int32} (C : zC D tys p s m args meth c cc own (some .int) nL) (u : S) (hv : rv u = some (.int v)) (hp : post u) (hP : va_P D vwCl (w1 u) H) (hD : va_D A (w1 u)) (hS : va_S A s.heap H locs) (hc : cells ≤ mc) (hs : slots ≤ ms) (hdg : decode cc pc = .ok (.ireturn, 1)) :
    W p l e R s m args below meth c H locs cells slots (MQ below (zQ D rv post w1 A) args s mc ms A) (F0 m pc ls [.int v]) :=
  W.widen hc hs (W.iret C.1 C.2.1 C.2.2.2.2.1 (fun t ht _ => ⟨⟨u, by rw [hv], hp, by rw [ht]; exact hP, hD⟩, hS.F ht⟩) hS.2.2 hdg C.2.2.2.2.2.2.1)
theorem zW_zret {S : Type} {rv : S → Option Value} {post : S → Prop} {w1 : S → va_W} {v : Int32} {ty : FieldType} (C : zC D tys p s m args meth c cc own (some ty) nL) (hn : narrow ty (.int v) = .int v) (u : S) (hv : rv u = some (.int v)) (hp : post u) (hP : va_P D vwCl (w1 u) H) (hD : va_D A (w1 u)) (hS : va_S A s.heap H locs) (hc : cells ≤ mc) (hs : slots ≤ ms) (hdg : decode cc pc = .ok (.ireturn, 1)) :
    W p l e R s m args below meth c H locs cells slots (MQ below (zQ D rv post w1 A) args s mc ms A) (F0 m pc ls [.int v]) :=
  W.widen hc hs (W.zret C.1 C.2.1 C.2.2.2.2.1 hn (fun t ht _ => ⟨⟨u, by rw [hv], hp, by rw [ht]; exact hP, hD⟩, hS.F ht⟩) hS.2.2 hdg C.2.2.2.2.2.2.1)
theorem zW_vret {S : Type} {rv : S → Option Value} {post : S → Prop} {w1 : S → va_W} (C : zC D tys p s m args meth c cc own none nL) (u : S) (hv : rv u = none) (hp : post u) (hP : va_P D vwCl (w1 u) H) (hD : va_D A (w1 u)) (hS : va_S A s.heap H locs) (hc : cells ≤ mc) (hs : slots ≤ ms) (hdg : decode cc pc = .ok (.return_, 1)) :
    W p l e R s m args below meth c H locs cells slots (MQ below (zQ D rv post w1 A) args s mc ms A) (F0 m pc ls []) :=
  W.widen hc hs (W.vret C.1 C.2.1 C.2.2.2.2.1 (fun t ht _ => ⟨⟨u, by rw [hv], hp, by rw [ht]; exact hP, hD⟩, hS.F ht⟩) hS.2.2 hdg C.2.2.2.2.2.2.1)
theorem zW_lret {S : Type} {rv : S → Option Value} {post : S → Prop} {w1 : S → va_W} {v : Int64} (C : zC D tys p s m args meth c cc own (some .long) nL) (u : S) (hv : rv u = some (.long v)) (hp : post u) (hP : va_P D vwCl (w1 u) H) (hD : va_D A (w1 u)) (hS : va_S A s.heap H locs) (hc : cells ≤ mc) (hs : slots ≤ ms) (hdg : decode cc pc = .ok (.lreturn, 1)) :
    W p l e R s m args below meth c H locs cells slots (MQ below (zQ D rv post w1 A) args s mc ms A) (F0 m pc ls [.long v]) :=
  W.widen hc hs (W.lret C.1 C.2.1 C.2.2.2.2.1 (fun t ht _ => ⟨⟨u, by rw [hv], hp, by rw [ht]; exact hP, hD⟩, hS.F ht⟩) hS.2.2 hdg C.2.2.2.2.2.2.1)
theorem zW_dret {S : Type} {rv : S → Option Value} {post : S → Prop} {w1 : S → va_W} {v : UInt64} (C : zC D tys p s m args meth c cc own (some .double) nL) (u : S) (hv : rv u = some (.double v)) (hp : post u) (hP : va_P D vwCl (w1 u) H) (hD : va_D A (w1 u)) (hS : va_S A s.heap H locs) (hc : cells ≤ mc) (hs : slots ≤ ms) (hdg : decode cc pc = .ok (.dreturn, 1)) :
    W p l e R s m args below meth c H locs cells slots (MQ below (zQ D rv post w1 A) args s mc ms A) (F0 m pc ls [.double v]) :=
  W.widen hc hs (W.dret C.1 C.2.1 C.2.2.2.2.1 (fun t ht _ => ⟨⟨u, by rw [hv], hp, by rw [ht]; exact hP, hD⟩, hS.F ht⟩) hS.2.2 hdg C.2.2.2.2.2.2.1)
theorem zW_aret {S : Type} {rv : S → Option Value} {post : S → Prop} {w1 : S → va_W} {v : Addr} {ty : FieldType} (C : zC D tys p s m args meth c cc own (some ty) nL) (hty : (∃ n, ty = .object n) ∨ ∃ t, ty = .array t) (u : S) (hv : rv u = some (.ref v)) (hp : post u) (hP : va_P D vwCl (w1 u) H) (hD : va_D A (w1 u)) (hS : va_S A s.heap H locs) (hc : cells ≤ mc) (hs : slots ≤ ms) (hdg : decode cc pc = .ok (.areturn, 1)) :
    W p l e R s m args below meth c H locs cells slots (MQ below (zQ D rv post w1 A) args s mc ms A) (F0 m pc ls [.ref v]) :=
  W.widen hc hs (W.aret C.1 C.2.1 C.2.2.2.2.1 hty (Or.inr ⟨_, rfl⟩) (fun t ht _ => ⟨⟨u, by rw [hv], hp, by rw [ht]; exact hP, hD⟩, hS.F ht⟩) hS.2.2 hdg C.2.2.2.2.2.2.1)
-- fields
theorem z_get {ref Cn : String} {T : u_T} {N ci index k q0 : Nat} {fs : List Value} {v : Value} (C : zC D tys p s m args meth c cc own rt nL) (F : zF own ref index ci k N Cn T) (hP : va_P D vwCl ws H) (he : ws[q0]? = some (a, .inr (ci, fs))) (hv : fs[k]? = some v) (hdg : decode cc pc = .ok (.getfield index, 3))
    (kk : W p l e R s m args below meth c H locs cells slots Q (F0 m (pc + 3) ls (v :: rest))) : W p l e R s m args below meth c H locs cells slots Q (F0 m pc ls (.ref a :: rest)) :=
  va_get C.1 C.2.1 C.2.2.1 F.1 C.2.2.2.1 C.2.2.2.2.2.2.2 hP q0 he F.2.1 k F.2.2.1 (C.2.2.1 _ F.2.2.2.1) (by rw [F.2.2.2.2]; exact fun _ h => h) hv hdg kk
theorem z_put {ref Cn : String} {T : u_T} {N ci index k q0 : Nat} {fs : List Value} {v : Value} {ty0 : Nat → FieldType} {ty : FieldType} (C : zC D tys p s m args meth c cc own rt nL) (F : zF own ref index ci k N Cn T) (Z : zT N T ty0) (hfin : (T k).2.2.2 = false) (hd : ty0 k = ty) (hn : narrow ty v = v) (hfit : fits ty v = true) (hP : va_P D vwCl ws H) (hD : va_D A ws) (hS : va_S A s.heap H locs) (he : ws[q0]? = some (a, .inr (ci, fs))) (hl : k < fs.length) (hdg : decode cc pc = .ok (.putfield index, 3))
    (kk : ∀ (H1 : Heap) (locs1 : List Loc), va_P D vwCl (ws.set q0 (a, .inr (ci, fs.set k v))) H1 → va_D A (ws.set q0 (a, .inr (ci, fs.set k v))) → va_S A s.heap H1 locs1 → W p l e R s m args below meth c H1 locs1 cells slots Q (F0 m (pc + 3) ls rest)) : W p l e R s m args below meth c H locs cells slots Q (F0 m pc ls (v :: .ref a :: rest)) :=
  va_put C.1 C.2.1 C.2.2.1 F.1 ty0 Z.1 Z.2 C.2.2.2.1 C.2.2.2.2.2.2.2 hP hD hS q0 he F.2.1 k F.2.2.1 (C.2.2.1 _ F.2.2.2.1) (by rw [F.2.2.2.2]; exact fun _ h => h) hfin (by rw [Z.1 k F.2.2.1, hd]) hn hfit hl hdg kk
theorem z_putF {ref Cn : String} {T : u_T} {N ci index k q0 : Nat} {fs : List Value} {v : Value} {ty0 : Nat → FieldType} {ty : FieldType} (C : zC D tys p s m args meth c cc own rt nL) (F : zF own ref index ci k N Cn T) (Z : zT N T ty0) (hin : meth.name = "<init>") (hown : ref = own) (hfin : (T k).2.2.2 = true) (hd : ty0 k = ty) (hn : narrow ty v = v) (hfit : fits ty v = true) (hP : va_P D vwCl ws H) (hD : va_D A ws) (hS : va_S A s.heap H locs) (he : ws[q0]? = some (a, .inr (ci, fs))) (hl : k < fs.length) (hdg : decode cc pc = .ok (.putfield index, 3))
    (kk : ∀ (H1 : Heap) (locs1 : List Loc), va_P D vwCl (ws.set q0 (a, .inr (ci, fs.set k v))) H1 → va_D A (ws.set q0 (a, .inr (ci, fs.set k v))) → va_S A s.heap H1 locs1 → W p l e R s m args below meth c H1 locs1 cells slots Q (F0 m (pc + 3) ls rest)) : W p l e R s m args below meth c H locs cells slots Q (F0 m pc ls (v :: .ref a :: rest)) :=
  va_putF C.1 C.2.1 C.2.2.1 F.1 ty0 Z.1 Z.2 C.2.2.2.1 C.2.2.2.2.2.2.2 hP hD hS q0 he F.2.1 k F.2.2.1 (C.2.2.1 _ F.2.2.2.1) (by rw [F.2.2.2.2]; exact fun _ h => h) hfin hin (by rw [F.2.2.2.2, hown]) (by rw [Z.1 k F.2.2.1, hd]) hn hfit hl hdg kk
-- what a call needs of the words
theorem z_cb {k maxL n index : Nat} {y : MethodName} {bytes : ByteArray} {ret : Option FieldType} (C : zC D tys p s m args meth c cc own rt nL) (hl : Cond.methodLink own index y ∈ lw_all) (hi : Cond.initialized y.cls ∈ lw_all) (hc : Cond.code y bytes maxL ret ∈ lw_all) (hd : y.cls ≠ "java/lang/invoke/MethodHandle" ∧ y.cls ≠ "java/lang/invoke/VarHandle" ∧ (parseMethodDescriptor y.desc).map (fun d => d.parameters.length) = some n) (hR : k + 1 ≤ R.frames ∧ 8 + (maxL + 11) + 40 * k ≤ R.locals) :
    CallB R s args own index y bytes maxL ret (ws_ y bytes maxL ret) (zr k mc ms) mc ms n :=
  callB_of n C.2.2.1 (ws_good hc) rfl rfl rfl (C.2.2.1 _ hi) (C.2.2.1 _ hl) hd hR
theorem z_cf (C : zC D tys p s m args meth c cc own rt nL) : CallFix p m c cc nL s args lw_all own := ⟨C.1, C.2.1, C.2.2.2.2.2.1, C.2.2.2.1, C.2.2.1⟩
theorem z_pr {al : List Value} {wc : va_W} {isC : List Nat} (C : zC D tys p s m args meth c cc own rt nL) (hG : zG s0 (fun _ => False) s H) (hP : va_P D vwCl ws H) (hC : isC.map (fun i => ws[i]?) = wc.map some) : ∀ U : State, U.heap = H → s.WarmedH U.vm → zPr s0 D tys al wc al.toArray U :=
  fun U hU hW => ⟨rfl, by rw [hU]; exact hP.sub isC (z_fm _ _ hC), va_K.moved hW.alike C.2.2.2.2.2.2.2, by rw [hU]; exact hG.warm hW⟩
theorem z_pw {al : List Value} {wc : va_W} {isC : List Nat} (C : zC D tys p s m args meth c cc own rt nL) (hG : zG s0 A s s.heap) (hA : ∀ q : Nat, s.heap.size ≤ q → A q) (hP : va_P D vwCl ws H) (hD : va_D A ws) (hS : va_S A s.heap H locs) (hC : isC.map (fun i => ws[i]?) = wc.map some) (hnC : va_nd isC = true) : ∀ U : State, U.heap = H → s.WarmedH U.vm → zPw s0 D tys al wc H.size al.toArray U :=
  fun U hU hW => ⟨rfl, by rw [hU], by rw [hU]; exact hP.sub isC (z_fm _ _ hC), va_K.moved hW.alike C.2.2.2.2.2.2.2, (hD.sub isC hnC hC).weaken (fun _ _ _ _ => trivial), by
    rw [hU]; exact ((hG.kept hS.1 hS.2.1).narrow (va_free hD hS hA isC hC)).warm hW⟩
-- calls of what reads alone: the heap stays
theorem z_endR {S : Type} {rv : S → Option Value} {post : S → Prop} {aa : Array Value} {st0 : List Value} (hr : va_Run p l e R s m args below meth c H locs cells slots 0 0 (F0 m pc ls st0) rest (zQr rv post aa) (fun _ => False))
    (kk : ∀ u : S, post u → W p l e R s m args below meth c H locs cells slots Q (F0 m (pc + 3) ls ((rv u).toList ++ rest))) : W p l e R s m args below meth c H locs cells slots Q (F0 m pc ls st0) := by
  intro T hT X
  obtain ⟨v, st₀, t, T', L, h0, X', hL, e1, e2, ⟨u, hv, hp, hh⟩, st⟩ := hr T hT X
  cases hv
  obtain ⟨t2, a1, b1⟩ := kk u hp T' (by rw [e1, hh, h0]) (Stand.forget X' (fun q h => (hL q h).elim))
  exact ⟨t2, st t2 a1, b1⟩
theorem z_RV {S : Type} {rv : S → Option Value} {post : S → Prop} {y : MethodName} {bytes : ByteArray} {maxL n k index ci : Nat} {ret : Option FieldType} {b : Nat} {As st0 : List Value} {wc : va_W} {fs : List Value} {T : u_T} {N : Nat} (isC : List Nat) (C : zC D tys p s m args meth c cc own rt nL) (hG : zG s0 (fun _ => False) s H) (hP : va_P D vwCl ws H)
    (hM : zR s0 l D tys y bytes maxL ret k (.ref b :: As) wc rv post) (hl : Cond.methodLink own index y ∈ lw_all) (F : zV y bytes maxL ret n) (hC : isC.map (fun i => ws[i]?) = wc.map some) (he : wc[0]? = some (b, .inr (ci, fs))) (hcl : vwCl[ci]? = some (y.cls, T, N)) (hn : As.length = n) (hR : k + 1 ≤ R.frames ∧ 8 + (maxL + 11) + 40 * k ≤ R.locals) (hf : cells ≤ R.cells ∧ slots ≤ R.slots)
    (hsz : ls.size = nL) (hst : st0 = As.reverse ++ .ref b :: rest) (hW : 2 * (F0 m pc ls rest).monitorRoom + (rest.map fun v => v.category).sum ≤ 8) (hdg : decode cc pc = .ok (.invokevirtual index, 3))
    (kk : ∀ u : S, post u → W p l e R s m args below meth c H locs cells slots Q (F0 m (pc + 3) ls ((rv u).toList ++ rest))) : W p l e R s m args below meth c H locs cells slots Q (F0 m pc ls st0) := by
  obtain ⟨f1, f2, f3, f4, f5⟩ := F
  exact z_endR (va_runV (z_cf C) hM ⟨z_cb C hl f3 f4 f5 hR, C.2.2.1 _ f1, C.2.2.1 _ f2⟩ ⟨zPr_blind, va_recv C.2.2.2.2.2.2.2 (hP.sub isC (z_fm _ _ hC)) hcl he, z_pr C hG hP hC⟩ rfl hn hsz hst hW hdg hf) kk
theorem z_RS {S : Type} {rv : S → Option Value} {post : S → Prop} {y : MethodName} {bytes : ByteArray} {maxL n k index : Nat} {ret : Option FieldType} {As st0 : List Value} {wc : va_W} (isC : List Nat) (C : zC D tys p s m args meth c cc own rt nL) (hG : zG s0 (fun _ => False) s H) (hP : va_P D vwCl ws H)
    (hM : zR s0 l D tys y bytes maxL ret k As wc rv post) (hl : Cond.methodLink own index y ∈ lw_all) (F : zSt y bytes maxL ret n) (hC : isC.map (fun i => ws[i]?) = wc.map some) (hn : As.length = n) (hR : k + 1 ≤ R.frames ∧ 8 + (maxL + 11) + 40 * k ≤ R.locals) (hf : cells ≤ R.cells ∧ slots ≤ R.slots)
    (hsz : ls.size = nL) (hst : st0 = As.reverse ++ rest) (hW : 2 * (F0 m pc ls rest).monitorRoom + (rest.map fun v => v.category).sum ≤ 8) (hdg : decode cc pc = .ok (.invokestatic index, 3))
    (kk : ∀ u : S, post u → W p l e R s m args below meth c H locs cells slots Q (F0 m (pc + 3) ls ((rv u).toList ++ rest))) : W p l e R s m args below meth c H locs cells slots Q (F0 m pc ls st0) := by
  obtain ⟨f1, f3, f4, f5⟩ := F
  exact z_endR (va_runS (z_cf C) hM ⟨z_cb C hl f3 f4 f5 hR, C.2.2.1 _ f1⟩ ⟨zPr_blind, z_pr C hG hP hC⟩ rfl hn hsz hst hW hdg hf) kk
-- calls of what writes: the callee's cells are cut out and put back
theorem z_endW {S : Type} {rv : S → Option Value} {post : S → Prop} {w1 wN : S → va_W} {wc wr : va_W} {aa : Array Value} {st0 : List Value} (isC isR perm : List Nat) (hA : ∀ q : Nat, s.heap.size ≤ q → A q) (hP : va_P D vwCl ws H) (hD : va_D A ws) (hS : va_S A s.heap H locs)
    (hC : isC.map (fun i => ws[i]?) = wc.map some) (hR : isR.map (fun i => ws[i]?) = wr.map some) (hn : va_nd isR = true) (hdis : ∀ i ∈ isR, i ∉ isC) (hperm : ∀ u, perm.map (fun i => (wr ++ w1 u)[i]?) = (wN u).map some) (hnp : va_nd perm = true)
    (hr : va_Run p l e R s m args below meth c H locs cells slots mc ms (F0 m pc ls st0) rest (zQ D rv post w1 (va_A wc H.size) aa) (va_A wc H.size))
    (kk : ∀ (u : S) (H1 : Heap) (locs1 : List Loc), post u → va_P D vwCl (wN u) H1 → va_D A (wN u) → va_S A s.heap H1 locs1 → W p l e R s m args below meth c H1 locs1 (cells + mc) (slots + ms) Q (F0 m (pc + 3) ls ((rv u).toList ++ rest))) : W p l e R s m args below meth c H locs cells slots Q (F0 m pc ls st0) := by
  intro T hT X
  obtain ⟨v, st₀, t, T', L, h0, X', hL, e1, e2, ⟨⟨u, hv, hp, hP1, hD1⟩, hF⟩, st⟩ := hr T hT X
  cases hv
  have hFc := va_free (wc := wc) hD hS hA isC hC
  obtain ⟨k1, k2, k3⟩ := vx_keep h0 e1 hS (fun q _ h => hFc q h) hFc hL hF
  rw [← e1] at hP1
  obtain ⟨hP2, hD2⟩ := va_join hP hD isC isR hC hR hn hdis k2 hFc hP1 hD1
  obtain ⟨t2, a1, b1⟩ := kk u T'.heap (locs ++ L) hp (hP2.sub perm (z_fm _ _ (hperm u))) (hD2.sub perm hnp (hperm u)) k3 T' rfl X'
  exact ⟨t2, st t2 a1, b1⟩
theorem z_WV {S : Type} {rv : S → Option Value} {post : S → Prop} {w1 wN : S → va_W} {wc wr : va_W} {y : MethodName} {bytes : ByteArray} {maxL n k index ci : Nat} {ret : Option FieldType} {b : Nat} {As st0 : List Value} {fs : List Value} {T : u_T} {N : Nat} (isC isR perm : List Nat) (C : zC D tys p s m args meth c cc own rt nL) (hG : zG s0 A s s.heap) (hA : ∀ q : Nat, s.heap.size ≤ q → A q) (hP : va_P D vwCl ws H) (hD : va_D A ws) (hS : va_S A s.heap H locs)
    (hM : zW s0 l D tys y bytes maxL ret k mc ms (.ref b :: As) wc rv post w1) (hl : Cond.methodLink own index y ∈ lw_all) (F : zV y bytes maxL ret n)
    (hC : isC.map (fun i => ws[i]?) = wc.map some) (hRr : isR.map (fun i => ws[i]?) = wr.map some) (hnn : va_nd isC = true ∧ va_nd isR = true ∧ va_nd perm = true) (hdis : ∀ i ∈ isR, i ∉ isC) (hperm : ∀ u, perm.map (fun i => (wr ++ w1 u)[i]?) = (wN u).map some)
    (he : wc[0]? = some (b, .inr (ci, fs))) (hcl : vwCl[ci]? = some (y.cls, T, N)) (hn : As.length = n) (hR : k + 1 ≤ R.frames ∧ 8 + (maxL + 11) + 40 * k ≤ R.locals) (hf : cells + mc ≤ R.cells ∧ slots + ms ≤ R.slots)
    (hsz : ls.size = nL) (hst : st0 = As.reverse ++ .ref b :: rest) (hW : 2 * (F0 m pc ls rest).monitorRoom + (rest.map fun v => v.category).sum ≤ 8) (hdg : decode cc pc = .ok (.invokevirtual index, 3))
    (kk : ∀ (u : S) (H1 : Heap) (locs1 : List Loc), post u → va_P D vwCl (wN u) H1 → va_D A (wN u) → va_S A s.heap H1 locs1 → W p l e R s m args below meth c H1 locs1 (cells + mc) (slots + ms) Q (F0 m (pc + 3) ls ((rv u).toList ++ rest))) : W p l e R s m args below meth c H locs cells slots Q (F0 m pc ls st0) := by
  obtain ⟨f1, f2, f3, f4, f5⟩ := F
  exact z_endW isC isR perm hA hP hD hS hC hRr hnn.2.1 hdis hperm hnn.2.2 (va_runV (z_cf C) (hM H.size) ⟨z_cb C hl f3 f4 f5 hR, C.2.2.1 _ f1, C.2.2.1 _ f2⟩ ⟨zPw_blind, va_recv C.2.2.2.2.2.2.2 (hP.sub isC (z_fm _ _ hC)) hcl he, z_pw C hG hA hP hD hS hC hnn.1⟩ rfl hn hsz hst hW hdg hf) kk
theorem z_WS {S : Type} {rv : S → Option Value} {post : S → Prop} {w1 wN : S → va_W} {wc wr : va_W} {y : MethodName} {bytes : ByteArray} {maxL n k index : Nat} {ret : Option FieldType} {As st0 : List Value} (isC isR perm : List Nat) (C : zC D tys p s m args meth c cc own rt nL) (hG : zG s0 A s s.heap) (hA : ∀ q : Nat, s.heap.size ≤ q → A q) (hP : va_P D vwCl ws H) (hD : va_D A ws) (hS : va_S A s.heap H locs)
    (hM : zW s0 l D tys y bytes maxL ret k mc ms As wc rv post w1) (hl : Cond.methodLink own index y ∈ lw_all) (F : zSt y bytes maxL ret n)
    (hC : isC.map (fun i => ws[i]?) = wc.map some) (hRr : isR.map (fun i => ws[i]?) = wr.map some) (hnn : va_nd isC = true ∧ va_nd isR = true ∧ va_nd perm = true) (hdis : ∀ i ∈ isR, i ∉ isC) (hperm : ∀ u, perm.map (fun i => (wr ++ w1 u)[i]?) = (wN u).map some)
    (hn : As.length = n) (hR : k + 1 ≤ R.frames ∧ 8 + (maxL + 11) + 40 * k ≤ R.locals) (hf : cells + mc ≤ R.cells ∧ slots + ms ≤ R.slots)
    (hsz : ls.size = nL) (hst : st0 = As.reverse ++ rest) (hW : 2 * (F0 m pc ls rest).monitorRoom + (rest.map fun v => v.category).sum ≤ 8) (hdg : decode cc pc = .ok (.invokestatic index, 3))
    (kk : ∀ (u : S) (H1 : Heap) (locs1 : List Loc), post u → va_P D vwCl (wN u) H1 → va_D A (wN u) → va_S A s.heap H1 locs1 → W p l e R s m args below meth c H1 locs1 (cells + mc) (slots + ms) Q (F0 m (pc + 3) ls ((rv u).toList ++ rest))) : W p l e R s m args below meth c H locs cells slots Q (F0 m pc ls st0) := by
  obtain ⟨f1, f3, f4, f5⟩ := F
  exact z_endW isC isR perm hA hP hD hS hC hRr hnn.2.1 hdis hperm hnn.2.2 (va_runS (z_cf C) (hM H.size) ⟨z_cb C hl f3 f4 f5 hR, C.2.2.1 _ f1⟩ ⟨zPw_blind, z_pw C hG hA hP hD hS hC hnn.1⟩ rfl hn hsz hst hW hdg hf) kk
theorem z_WI {S : Type} {rv : S → Option Value} {post : S → Prop} {w1 wN : S → va_W} {wc wr : va_W} {y : MethodName} {bytes : ByteArray} {maxL n k index : Nat} {b : Nat} {As st0 : List Value} (isC isR perm : List Nat) (C : zC D tys p s m args meth c cc own rt nL) (hG : zG s0 A s s.heap) (hA : ∀ q : Nat, s.heap.size ≤ q → A q) (hP : va_P D vwCl ws H) (hD : va_D A ws) (hS : va_S A s.heap H locs)
    (hM : zW s0 l D tys y bytes maxL none k mc ms (.ref b :: As) wc rv post w1) (hl : Cond.methodLink own index y ∈ lw_all) (F : zI y bytes maxL n)
    (hC : isC.map (fun i => ws[i]?) = wc.map some) (hRr : isR.map (fun i => ws[i]?) = wr.map some) (hnn : va_nd isC = true ∧ va_nd isR = true ∧ va_nd perm = true) (hdis : ∀ i ∈ isR, i ∉ isC) (hperm : ∀ u, perm.map (fun i => (wr ++ w1 u)[i]?) = (wN u).map some)
    (hn : As.length = n) (hR : k + 1 ≤ R.frames ∧ 8 + (maxL + 11) + 40 * k ≤ R.locals) (hf : cells + mc ≤ R.cells ∧ slots + ms ≤ R.slots)
    (hsz : ls.size = nL) (hst : st0 = As.reverse ++ .ref b :: rest) (hW : 2 * (F0 m pc ls rest).monitorRoom + (rest.map fun v => v.category).sum ≤ 8) (hdg : decode cc pc = .ok (.invokespecial index, 3))
    (kk : ∀ (u : S) (H1 : Heap) (locs1 : List Loc), post u → va_P D vwCl (wN u) H1 → va_D A (wN u) → va_S A s.heap H1 locs1 → W p l e R s m args below meth c H1 locs1 (cells + mc) (slots + ms) Q (F0 m (pc + 3) ls ((rv u).toList ++ rest))) : W p l e R s m args below meth c H locs cells slots Q (F0 m pc ls st0) := by
  obtain ⟨f1, f2, f3, f4, f5⟩ := F
  exact z_endW isC isR perm hA hP hD hS hC hRr hnn.2.1 hdis hperm hnn.2.2 (va_runI (z_cf C) (hM H.size) ⟨z_cb C hl f3 f4 f5 hR, f2, C.2.2.1 _ f1⟩ ⟨zPw_blind, z_pw C hG hA hP hD hS hC hnn.1⟩ rfl hn hsz hst hW hdg hf) kk
-- calls of what may throw
theorem z_endX {S : Type} {rv : S → Option Value} {post : S → Prop} {px : String → Prop} {w1 wN : S → va_W} {wc wr : va_W} {aa : Array Value} {st0 : List Value} (isC isR perm perm0 : List Nat) (hA : ∀ q : Nat, s.heap.size ≤ q → A q) (hP : va_P D vwCl ws H) (hD : va_D A ws) (hS : va_S A s.heap H locs)
    (hC : isC.map (fun i => ws[i]?) = wc.map some) (hnC : va_nd isC = true) (hR : isR.map (fun i => ws[i]?) = wr.map some) (hn : va_nd isR = true) (hdis : ∀ i ∈ isR, i ∉ isC) (hperm : ∀ u, perm.map (fun i => (wr ++ w1 u)[i]?) = (wN u).map some) (hnp : va_nd perm = true) (hperm0 : perm0.map (fun i => (wr ++ wc)[i]?) = ws.map some)
    (hr : vx_Run p l e R s m args below meth c H locs cells slots mc ms (F0 m pc ls st0) rest (zQ D rv post w1 (va_A wc H.size) aa) (zXC D px wc (va_A wc H.size)) (va_A wc H.size))
    (kx : ∀ (E : String) (ce : Cell) (q9 : Addr) (H1 : Heap) (locs1 : List Loc), px E → va_P D vwCl ws H1 → va_S A s.heap H1 locs1 → H1[q9]? = some ce → ce.vm = .none → s.vm.findClass E = some ce.cls → vx_W p l e R s m args below meth c H1 locs1 (cells + mc) (slots + ms) Q (F0 m pc ls rest) q9)
    (kk : ∀ (u : S) (H1 : Heap) (locs1 : List Loc), post u → va_P D vwCl (wN u) H1 → va_D A (wN u) → va_S A s.heap H1 locs1 → W p l e R s m args below meth c H1 locs1 (cells + mc) (slots + ms) Q (F0 m (pc + 3) ls ((rv u).toList ++ rest))) : W p l e R s m args below meth c H locs cells slots Q (F0 m pc ls st0) := by
  intro T hT X
  have hFc := va_free (wc := wc) hD hS hA isC hC
  rcases hr T hT X with ⟨v, st₀, t, T', L, h0, X', hL, e1, e2, ⟨⟨u, hv, hp, hP1, hD1⟩, hF⟩, st⟩ | ⟨q, st₀, t, T', L, E, ce, h0, X', hL, e1, e2, ⟨hp, hP1, hF⟩, hce, hcv, hcl, st⟩
  · cases hv
    obtain ⟨k1, k2, k3⟩ := vx_keep h0 e1 hS (fun q _ h => hFc q h) hFc hL hF
    rw [← e1] at hP1
    obtain ⟨hP2, hD2⟩ := va_join hP hD isC isR hC hR hn hdis k2 hFc hP1 hD1
    obtain ⟨t2, a1, b1⟩ := kk u T'.heap (locs ++ L) hp (hP2.sub perm (z_fm _ _ (hperm u))) (hD2.sub perm hnp (hperm u)) k3 T' rfl X'
    exact ⟨t2, st t2 a1, b1⟩
  · obtain ⟨k1, k2, k3⟩ := vx_keep h0 e1 hS (fun q _ h => hFc q h) hFc hL hF
    rw [← e1] at hP1
    obtain ⟨hP2, hD2⟩ := va_join hP hD isC isR hC hR hn hdis k2 hFc hP1 ((hD.sub isC hnC hC).self (sz := H.size))
    obtain ⟨t2, a1, b1⟩ := kx E ce q T'.heap (locs ++ L) hp (hP2.sub perm0 (z_fm _ _ hperm0)) k3 (by rw [e1]; exact hce) hcv hcl T' rfl X'
    exact ⟨t2, st.trans a1, b1⟩
theorem z_XV {S : Type} {rv : S → Option Value} {post : S → Prop} {px : String → Prop} {w1 wN : S → va_W} {wc wr : va_W} {y : MethodName} {bytes : ByteArray} {maxL n k index ci : Nat} {ret : Option FieldType} {b : Nat} {As st0 : List Value} {fs : List Value} {T : u_T} {N : Nat} (isC isR perm perm0 : List Nat) (C : zC D tys p s m args meth c cc own rt nL) (hG : zG s0 A s s.heap) (hA : ∀ q : Nat, s.heap.size ≤ q → A q) (hP : va_P D vwCl ws H) (hD : va_D A ws) (hS : va_S A s.heap H locs)
    (hM : zX s0 l D tys y bytes maxL ret k mc ms (.ref b :: As) wc rv post w1 px) (hl : Cond.methodLink own index y ∈ lw_all) (F : zV y bytes maxL ret n)
    (hC : isC.map (fun i => ws[i]?) = wc.map some) (hRr : isR.map (fun i => ws[i]?) = wr.map some) (hnn : va_nd isC = true ∧ va_nd isR = true ∧ va_nd perm = true) (hdis : ∀ i ∈ isR, i ∉ isC) (hperm : ∀ u, perm.map (fun i => (wr ++ w1 u)[i]?) = (wN u).map some) (hperm0 : perm0.map (fun i => (wr ++ wc)[i]?) = ws.map some)
    (he : wc[0]? = some (b, .inr (ci, fs))) (hcl : vwCl[ci]? = some (y.cls, T, N)) (hn : As.length = n) (hR : k + 1 ≤ R.frames ∧ 8 + (maxL + 11) + 40 * k ≤ R.locals) (hf : cells + mc ≤ R.cells ∧ slots + ms ≤ R.slots)
    (hsz : ls.size = nL) (hst : st0 = As.reverse ++ .ref b :: rest) (hW : 2 * (F0 m pc ls rest).monitorRoom + (rest.map fun v => v.category).sum ≤ 8) (hdg : decode cc pc = .ok (.invokevirtual index, 3))
    (kx : ∀ (E : String) (ce : Cell) (q9 : Addr) (H1 : Heap) (locs1 : List Loc), px E → va_P D vwCl ws H1 → va_S A s.heap H1 locs1 → H1[q9]? = some ce → ce.vm = .none → s.vm.findClass E = some ce.cls → vx_W p l e R s m args below meth c H1 locs1 (cells + mc) (slots + ms) Q (F0 m pc ls rest) q9)
    (kk : ∀ (u : S) (H1 : Heap) (locs1 : List Loc), post u → va_P D vwCl (wN u) H1 → va_D A (wN u) → va_S A s.heap H1 locs1 → W p l e R s m args below meth c H1 locs1 (cells + mc) (slots + ms) Q (F0 m (pc + 3) ls ((rv u).toList ++ rest))) : W p l e R s m args below meth c H locs cells slots Q (F0 m pc ls st0) := by
  obtain ⟨f1, f2, f3, f4, f5⟩ := F
  exact z_endX isC isR perm perm0 hA hP hD hS hC hnn.1 hRr hnn.2.1 hdis hperm hnn.2.2 hperm0 (vx_runV (z_cf C) (hM H.size) ⟨z_cb C hl f3 f4 f5 hR, C.2.2.1 _ f1, C.2.2.1 _ f2⟩ ⟨zPw_blind, va_recv C.2.2.2.2.2.2.2 (hP.sub isC (z_fm _ _ hC)) hcl he, z_pw C hG hA hP hD hS hC hnn.1⟩ rfl hn hsz hst hW hdg hf) kx kk
theorem z_XS {S : Type} {rv : S → Option Value} {post : S → Prop} {px : String → Prop} {w1 wN : S → va_W} {wc wr : va_W} {y : MethodName} {bytes : ByteArray} {maxL n k index : Nat} {ret : Option FieldType} {As st0 : List Value} (isC isR perm perm0 : List Nat) (C : zC D tys p s m args meth c cc own rt nL) (hG : zG s0 A s s.heap) (hA : ∀ q : Nat, s.heap.size ≤ q → A q) (hP : va_P D vwCl ws H) (hD : va_D A ws) (hS : va_S A s.heap H locs)
    (hM : zX s0 l D tys y bytes maxL ret k mc ms As wc rv post w1 px) (hl : Cond.methodLink own index y ∈ lw_all) (F : zSt y bytes maxL ret n)
    (hC : isC.map (fun i => ws[i]?) = wc.map some) (hRr : isR.map (fun i => ws[i]?) = wr.map some) (hnn : va_nd isC = true ∧ va_nd isR = true ∧ va_nd perm = true) (hdis : ∀ i ∈ isR, i ∉ isC) (hperm : ∀ u, perm.map (fun i => (wr ++ w1 u)[i]?) = (wN u).map some) (hperm0 : perm0.map (fun i => (wr ++ wc)[i]?) = ws.map some)
    (hn : As.length = n) (hR : k + 1 ≤ R.frames ∧ 8 + (maxL + 11) + 40 * k ≤ R.locals) (hf : cells + mc ≤ R.cells ∧ slots + ms ≤ R.slots)
    (hsz : ls.size = nL) (hst : st0 = As.reverse ++ rest) (hW : 2 * (F0 m pc ls rest).monitorRoom + (rest.map fun v => v.category).sum ≤ 8) (hdg : decode cc pc = .ok (.invokestatic index, 3))
    (kx : ∀ (E : String) (ce : Cell) (q9 : Addr) (H1 : Heap) (locs1 : List Loc), px E → va_P D vwCl ws H1 → va_S A s.heap H1 locs1 → H1[q9]? = some ce → ce.vm = .none → s.vm.findClass E = some ce.cls → vx_W p l e R s m args below meth c H1 locs1 (cells + mc) (slots + ms) Q (F0 m pc ls rest) q9)
    (kk : ∀ (u : S) (H1 : Heap) (locs1 : List Loc), post u → va_P D vwCl (wN u) H1 → va_D A (wN u) → va_S A s.heap H1 locs1 → W p l e R s m args below meth c H1 locs1 (cells + mc) (slots + ms) Q (F0 m (pc + 3) ls ((rv u).toList ++ rest))) : W p l e R s m args below meth c H locs cells slots Q (F0 m pc ls st0) := by
  obtain ⟨f1, f3, f4, f5⟩ := F
  exact z_endX isC isR perm perm0 hA hP hD hS hC hnn.1 hRr hnn.2.1 hdis hperm hnn.2.2 hperm0 (vx_runS (z_cf C) (hM H.size) ⟨z_cb C hl f3 f4 f5 hR, C.2.2.1 _ f1⟩ ⟨zPw_blind, z_pw C hG hA hP hD hS hC hnn.1⟩ rfl hn hsz hst hW hdg hf) kx kk
/-- thrown on: a method without a table -/
theorem zX_out {E : String} {ce : Cell} {q : Addr} {Qc : Array Value → State → Outcome → State → Prop} {px : String → Prop} {w0 : va_W} (C : zC D tys p s m args meth c cc own rt nL) (hnt : ∀ x ∈ c.exceptionTable.toList, False) (hE : px E) (hP : va_P D vwCl w0 H) (hS : va_S A s.heap H locs) (hce : H[q]? = some ce) (hv : ce.vm = .none) (hcl : s.vm.findClass E = some ce.cls) (hc : cells ≤ mc) (hs : slots ≤ ms) :
    vx_W p l e R s m args below meth c H locs cells slots (vx_MQ below Qc (zXC D px w0 A) args s mc ms A) (F0 m pc ls rest) q :=
  vx_out (fun x hx => (hnt x hx).elim) C.2.2.2.2.2.2.1 hce hv hcl (fun t ht _ => ⟨hE, by rw [ht]; exact hP, hS.F ht⟩) hS.2.2 hc hs
end ZR
end
section
/-! THROWS: 'throw new E("text")' over the law's start; the start's facts moved to where they are asked. -/
def zg (w : Cond) : Bool := goodWord w || (match w with | .castable .. => true | .declares _ => true | _ => false)
theorem z_word {s0 s : State} {D : va_G} {tys : List (ClassId × FieldType)} {p : Program} {m : MethodId} {args : Array Value} {meth : Method} {c : Code} {cc : ByteArray} {own : String} {rt : Option FieldType} {nL : Nat} (hs0 : zS s0) (C : zC D tys p s m args meth c cc own rt nL) (hW : s0.WarmedH s.vm) {w : Cond} (h : w ∈ lw_tbl) (g : zg w = true) : w.before args s = true := by
  by_cases gw : goodWord w = true
  · exact C.2.2.1 w (List.mem_filter.mpr ⟨h, gw⟩)
  · obtain ⟨a0, h0, -⟩ := hs0
    have g2 : (∃ a b, w = .castable a b) ∨ ∃ x, w = .declares x := by
      cases w <;> simp_all [zg]
    rcases g2 with ⟨a, b, rfl⟩ | ⟨x, rfl⟩
    · exact va_Nw.use rfl (va_Nw.warmC hW (va_Nw.of rfl (h0 _ h)))
    · exact va_Nw.use rfl (va_Nw.warmD hW (va_Nw.of rfl (h0 _ h)))
abbrev zExN : List String := ["java/lang/RuntimeException", "java/lang/Exception"]
/-- the words of one throw -/
def zTh (own cls text : String) (ik is ic : Nat) : Prop :=
  Cond.classLink own ik cls ∈ lw_all ∧ Cond.initialized cls ∈ lw_all ∧ Bundle.fit cls = true ∧ (∀ w ∈ vx_atS own ic cls zExN, w ∈ lw_tbl) ∧ (vx_atS own ic cls zExN).all zg = true ∧ (Cond.classLink own ik cls :: Cond.initialized cls :: vx_atS own ic cls zExN).all vx_ot = true ∧ Cond.stringRef own is text ∈ lw_tbl ∧ Cond.exactly (.string own is) "java/lang/String" ∈ flatC (Jvm.Cond.and given_1 narrow_1)
theorem z_fitN : ∀ n ∈ zExN, Bundle.fit n = true := by decide +kernel
theorem z_Zq {s0 s : State} {A : Nat → Prop} (hs0 : zS s0) (hG : zG s0 A s s.heap) {C n d : String} (hl : Cond.laysStatic C n d ∈ lw_tbl) (hi : Cond.initialized C ∈ lw_tbl) (hr : Cond.isRef (.static C n d) ∈ flatC (Jvm.Cond.and given_1 narrow_1)) : vx_Zq C n d A s s.heap := by
  obtain ⟨a0, h0, h1⟩ := hs0
  have z0 : vx_Zq C n d (fun q : Nat => s0.heap.size ≤ q) s0 s0.heap := vx_Zqof (h0 _ hl) (h0 _ hi) (flat_of_before _ h1 _ hr) (fun a ha => Nat.not_le.mpr ha)
  exact (((vx_Zq.moved hG.1.alike z0).kept (fun a ha _ => hG.2.2.2 a ha))).narrow hG.2.1
theorem z_U1 : Cond.laysStatic Bundle.tN "UNASSIGNED_STACK" Bundle.steD ∈ lw_tbl := List.mem_append_right _ (List.mem_append_left _ (List.mem_of_getElem? (i := 189) (by decide +kernel)))
theorem z_N1 : Cond.laysStatic Bundle.tN "SUPPRESSED_SENTINEL" Bundle.listD ∈ lw_tbl := List.mem_append_right _ (List.mem_append_left _ (List.mem_of_getElem? (i := 191) (by decide +kernel)))
theorem z_U2 : Cond.initialized Bundle.tN ∈ lw_tbl := List.mem_append_right _ (List.mem_append_left _ (List.mem_of_getElem? (i := 9) (by decide +kernel)))
theorem z_U3 : Cond.isRef (.static Bundle.tN "UNASSIGNED_STACK" Bundle.steD) ∈ flatC (Jvm.Cond.and given_1 narrow_1) := by decide +kernel
theorem z_N3 : Cond.isRef (.static Bundle.tN "SUPPRESSED_SENTINEL" Bundle.listD) ∈ flatC (Jvm.Cond.and given_1 narrow_1) := by decide +kernel
theorem z_str {s0 s : State} {own text : String} {is : Nat} (hs0 : zS s0) (hW : s0.WarmedH s.vm) (h1 : Cond.stringRef own is text ∈ lw_tbl) (h2 : Cond.exactly (.string own is) "java/lang/String" ∈ flatC (Jvm.Cond.and given_1 narrow_1)) : ∃ sa, vk_R own is text sa s := by
  obtain ⟨a0, h0, hn⟩ := hs0
  obtain ⟨a, c, cell, k, e1, -⟩ := Cond.exactly_spec (show (Cond.exactly (.string own is) "java/lang/String").holds a0 s0 none s0 [] = true from flat_of_before _ hn _ h2)
  exact ⟨a, vk_R.warm hW (vk_R.of (A := a0) (h0 _ h1) e1)⟩
section ZT
variable {s0 : State} {p : Program} {l : Launch} {e : Env} {R : Room} {s : State} {m : MethodId} {args : Array Value} {below : List Frame} {meth : Method} {c : Code} {H : Heap} {locs : List Loc} {cells slots : Nat}
variable {D : va_G} {tys : List (ClassId × FieldType)} {cc : ByteArray} {own : String} {rt : Option FieldType} {nL : Nat} {pc : Nat} {ls : Array Slot} {rest : List Value} {A : Nat → Prop} {mc ms : Nat}
theorem z_throw {cls text : String} {ik is ic : Nat} {Qc : Array Value → State → Outcome → State → Prop} {px : String → Prop} {w0 : va_W} (hs0 : zS s0) (hl : l.stackTraces = false) (C : zC D tys p s m args meth c cc own rt nL) (hnt : ∀ x ∈ c.exceptionTable.toList, False) (hG : zG s0 A s s.heap) (X : zTh own cls text ik is ic) (hP : va_P D vwCl w0 H) (hS : va_S A s.heap H locs) (hsz : ls.size = nL)
    (d0 : decode cc pc = .ok (.new ik, 3)) (d3 : decode cc (pc + 3) = .ok (.dup, 1)) (d4 : decode cc (pc + 4) = .ok (.ldc is, 2)) (d6 : decode cc (pc + 6) = .ok (.invokespecial ic, 3)) (d9 : decode cc (pc + 9) = .ok (.athrow, 1))
    (hRf : 5 < R.frames) (hRl : (rest.map fun v => v.category).sum + 82 ≤ R.locals) (hRc : cells + 1 ≤ R.cells) (hRs : slots + 6 ≤ R.slots) (hE : px cls) (hc : cells + 1 ≤ mc) (hs : slots + 6 ≤ ms) :
    W p l e R s m args below meth c H locs cells slots (vx_MQ below Qc (zXC D px w0 A) args s mc ms A) (F0 m pc ls rest) := by
  obtain ⟨x1, x2, x3, x4, x5, x6, x7, x8⟩ := X
  obtain ⟨sa, hstr⟩ := z_str hs0 hG.1 x7 x8
  have hat : ∀ w ∈ vx_atS own ic cls zExN, w.before args s = true := fun w hw => z_word hs0 C hG.1 (x4 w hw) (List.all_eq_true.mp x5 w hw)
  exact vx_throwS C.1 C.2.1 hl C.2.2.2.1 x3 z_fitN (C.2.2.1 _ x1) (C.2.2.1 _ x2) hstr hat (fun w hw => List.all_eq_true.mp x6 w hw) (z_Zq hs0 hG z_U1 z_U2 z_U3) (z_Zq hs0 hG z_N1 z_U2 z_N3) hS (hsz.trans C.2.2.2.2.2.1.symm) d0 d3 d4 d6 d9 (fun x hx => (hnt x hx).elim) hRf hRl hRc hRs C.2.2.2.2.2.2.1
    (fun t _ h1 h2 => ⟨hE, hP.kept (fun k q hk => h2 q.1 (hP k q hk).lt), Nat.le_trans hS.1 h1, fun q hq hn => (h2 q (Nat.lt_of_lt_of_le hq hS.1)).trans (hS.2.1 q hq hn)⟩) hS.2.2 hc hs
end ZT
theorem z_at1 : ∀ w ∈ vx_atS RX2 221 "java/lang/IndexOutOfBoundsException" zExN, w ∈ lw_tbl := by decide +kernel
theorem z_at2 : ∀ w ∈ vx_atS RX2 58 "java/lang/IllegalArgumentException" zExN, w ∈ lw_tbl := by decide +kernel
theorem z_at3 : ∀ w ∈ vx_atS RX2 40 "java/lang/IllegalStateException" zExN, w ∈ lw_tbl := by decide +kernel
theorem z_ag1 : (vx_atS RX2 221 "java/lang/IndexOutOfBoundsException" zExN).all zg = true ∧ (Cond.classLink RX2 217 "java/lang/IndexOutOfBoundsException" :: Cond.initialized "java/lang/IndexOutOfBoundsException" :: vx_atS RX2 221 "java/lang/IndexOutOfBoundsException" zExN).all vx_ot = true := by decide +kernel
theorem z_ag2 : (vx_atS RX2 58 "java/lang/IllegalArgumentException" zExN).all zg = true ∧ (Cond.classLink RX2 54 "java/lang/IllegalArgumentException" :: Cond.initialized "java/lang/IllegalArgumentException" :: vx_atS RX2 58 "java/lang/IllegalArgumentException" zExN).all vx_ot = true := by decide +kernel
theorem z_ag3 : (vx_atS RX2 40 "java/lang/IllegalStateException" zExN).all zg = true ∧ (Cond.classLink RX2 36 "java/lang/IllegalStateException" :: Cond.initialized "java/lang/IllegalStateException" :: vx_atS RX2 40 "java/lang/IllegalStateException" zExN).all vx_ot = true := by decide +kernel
theorem z_th1 {text : String} {is : Nat} (h7 : Cond.stringRef RX2 is text ∈ lw_tbl) (h8 : Cond.exactly (.string RX2 is) "java/lang/String" ∈ flatC (Jvm.Cond.and given_1 narrow_1)) (h1 : Cond.classLink RX2 217 "java/lang/IndexOutOfBoundsException" ∈ lw_all) (h2 : Cond.initialized "java/lang/IndexOutOfBoundsException" ∈ lw_all) : zTh RX2 "java/lang/IndexOutOfBoundsException" text 217 is 221 := ⟨h1, h2, by decide +kernel, z_at1, z_ag1.1, z_ag1.2, h7, h8⟩
theorem z_th2 {text : String} {is : Nat} (h7 : Cond.stringRef RX2 is text ∈ lw_tbl) (h8 : Cond.exactly (.string RX2 is) "java/lang/String" ∈ flatC (Jvm.Cond.and given_1 narrow_1)) (h1 : Cond.classLink RX2 54 "java/lang/IllegalArgumentException" ∈ lw_all) (h2 : Cond.initialized "java/lang/IllegalArgumentException" ∈ lw_all) : zTh RX2 "java/lang/IllegalArgumentException" text 54 is 58 := ⟨h1, h2, by decide +kernel, z_at2, z_ag2.1, z_ag2.2, h7, h8⟩
theorem z_th3 {text : String} {is : Nat} (h7 : Cond.stringRef RX2 is text ∈ lw_tbl) (h8 : Cond.exactly (.string RX2 is) "java/lang/String" ∈ flatC (Jvm.Cond.and given_1 narrow_1)) (h1 : Cond.classLink RX2 36 "java/lang/IllegalStateException" ∈ lw_all) (h2 : Cond.initialized "java/lang/IllegalStateException" ∈ lw_all) : zTh RX2 "java/lang/IllegalStateException" text 36 is 40 := ⟨h1, h2, by decide +kernel, z_at3, z_ag3.1, z_ag3.2, h7, h8⟩
end
section
/-! THE WORLDS: what the cells of the objects hold -/
abbrev BS : Type := (Nat → Int32) × (Nat → Int32) × (Nat → Int32) × (Nat → Int32) × Int32
abbrev TS : Type := (Nat → Int32) × (Nat → Int32) × (Nat → Int32) × (Nat → Int32) × (Nat → Int32) × (Nat → Int32) × (Nat → Int32) × (Nat → Int32) × (Nat → Int32) × (Nat → Int32) × Int32
abbrev DS : Type := BS × BS × TS × Int32 × Int32
abbrev MS : Type := Int32 × Int32 × Int32 × (Nat → Int32) × (Nat → Int32) × (Nat → Int32) × (Nat → Int32) × (Nat → Int32) × (Nat → Int32) × (Nat → Int32) × (Nat → Int32) × (Nat → Int32)
abbrev zty (cI cB cJ : ClassId) : List (ClassId × FieldType) := [(cI, .int), (cB, .byte), (cJ, .long)]
abbrev wB (cI : ClassId) (bA tA : Nat → Nat) (b : BS) (T : TS) : va_W := [((bA 0), .inr (4, [.ref (tA 0), .ref (bA 1), .ref (bA 2), .ref (bA 3), .ref (bA 4), .int b.2.2.2.2])), ((bA 1), .inl (cI, 6, .inl b.1)), ((bA 2), .inl (cI, 20, .inl b.2.1)), ((bA 3), .inl (cI, 20, .inl b.2.2.1)), ((bA 4), .inl (cI, 20, .inl b.2.2.2.1)), ((tA 0), .inr (5, [.ref (tA 1), .ref (tA 2), .ref (tA 3), .ref (tA 4), .ref (tA 5), .ref (tA 6), .ref (tA 7), .ref (tA 8), .ref (tA 9), .ref (tA 10), .int T.2.2.2.2.2.2.2.2.2.2])), ((tA 1), .inl (cI, 20, .inl T.1)), ((tA 2), .inl (cI, 20, .inl T.2.1)), ((tA 3), .inl (cI, 20, .inl T.2.2.1)), ((tA 4), .inl (cI, 20, .inl T.2.2.2.1)), ((tA 5), .inl (cI, 20, .inl T.2.2.2.2.1)), ((tA 6), .inl (cI, 20, .inl T.2.2.2.2.2.1)), ((tA 7), .inl (cI, 20, .inl T.2.2.2.2.2.2.1)), ((tA 8), .inl (cI, 20, .inl T.2.2.2.2.2.2.2.1)), ((tA 9), .inl (cI, 20, .inl T.2.2.2.2.2.2.2.2.1)), ((tA 10), .inl (cI, 20, .inl T.2.2.2.2.2.2.2.2.2.1))]
abbrev wT (cI : ClassId) (tA : Nat → Nat) (T : TS) : va_W := [((tA 0), .inr (5, [.ref (tA 1), .ref (tA 2), .ref (tA 3), .ref (tA 4), .ref (tA 5), .ref (tA 6), .ref (tA 7), .ref (tA 8), .ref (tA 9), .ref (tA 10), .int T.2.2.2.2.2.2.2.2.2.2])), ((tA 1), .inl (cI, 20, .inl T.1)), ((tA 2), .inl (cI, 20, .inl T.2.1)), ((tA 3), .inl (cI, 20, .inl T.2.2.1)), ((tA 4), .inl (cI, 20, .inl T.2.2.2.1)), ((tA 5), .inl (cI, 20, .inl T.2.2.2.2.1)), ((tA 6), .inl (cI, 20, .inl T.2.2.2.2.2.1)), ((tA 7), .inl (cI, 20, .inl T.2.2.2.2.2.2.1)), ((tA 8), .inl (cI, 20, .inl T.2.2.2.2.2.2.2.1)), ((tA 9), .inl (cI, 20, .inl T.2.2.2.2.2.2.2.2.1)), ((tA 10), .inl (cI, 20, .inl T.2.2.2.2.2.2.2.2.2.1))]
abbrev wBB (cI : ClassId) (bA oA tA : Nat → Nat) (b o : BS) : va_W := [((bA 0), .inr (4, [.ref (tA 0), .ref (bA 1), .ref (bA 2), .ref (bA 3), .ref (bA 4), .int b.2.2.2.2])), ((bA 1), .inl (cI, 6, .inl b.1)), ((bA 2), .inl (cI, 20, .inl b.2.1)), ((bA 3), .inl (cI, 20, .inl b.2.2.1)), ((bA 4), .inl (cI, 20, .inl b.2.2.2.1)), ((oA 0), .inr (4, [.ref (tA 0), .ref (oA 1), .ref (oA 2), .ref (oA 3), .ref (oA 4), .int o.2.2.2.2])), ((oA 1), .inl (cI, 6, .inl o.1)), ((oA 2), .inl (cI, 20, .inl o.2.1)), ((oA 3), .inl (cI, 20, .inl o.2.2.1)), ((oA 4), .inl (cI, 20, .inl o.2.2.2.1))]
abbrev wD (cI : ClassId) (dA bA aA tA : Nat → Nat) (d : DS) : va_W := [((dA 0), .inr (6, [.ref (tA 0), .ref (bA 0), .ref (aA 0), .int d.2.2.2.1, .int d.2.2.2.2])), ((bA 0), .inr (4, [.ref (tA 0), .ref (bA 1), .ref (bA 2), .ref (bA 3), .ref (bA 4), .int d.1.2.2.2.2])), ((bA 1), .inl (cI, 6, .inl d.1.1)), ((bA 2), .inl (cI, 20, .inl d.1.2.1)), ((bA 3), .inl (cI, 20, .inl d.1.2.2.1)), ((bA 4), .inl (cI, 20, .inl d.1.2.2.2.1)), ((aA 0), .inr (4, [.ref (tA 0), .ref (aA 1), .ref (aA 2), .ref (aA 3), .ref (aA 4), .int d.2.1.2.2.2.2])), ((aA 1), .inl (cI, 6, .inl d.2.1.1)), ((aA 2), .inl (cI, 20, .inl d.2.1.2.1)), ((aA 3), .inl (cI, 20, .inl d.2.1.2.2.1)), ((aA 4), .inl (cI, 20, .inl d.2.1.2.2.2.1)), ((tA 0), .inr (5, [.ref (tA 1), .ref (tA 2), .ref (tA 3), .ref (tA 4), .ref (tA 5), .ref (tA 6), .ref (tA 7), .ref (tA 8), .ref (tA 9), .ref (tA 10), .int d.2.2.1.2.2.2.2.2.2.2.2.2.2])), ((tA 1), .inl (cI, 20, .inl d.2.2.1.1)), ((tA 2), .inl (cI, 20, .inl d.2.2.1.2.1)), ((tA 3), .inl (cI, 20, .inl d.2.2.1.2.2.1)), ((tA 4), .inl (cI, 20, .inl d.2.2.1.2.2.2.1)), ((tA 5), .inl (cI, 20, .inl d.2.2.1.2.2.2.2.1)), ((tA 6), .inl (cI, 20, .inl d.2.2.1.2.2.2.2.2.1)), ((tA 7), .inl (cI, 20, .inl d.2.2.1.2.2.2.2.2.2.1)), ((tA 8), .inl (cI, 20, .inl d.2.2.1.2.2.2.2.2.2.2.1)), ((tA 9), .inl (cI, 20, .inl d.2.2.1.2.2.2.2.2.2.2.2.1)), ((tA 10), .inl (cI, 20, .inl d.2.2.1.2.2.2.2.2.2.2.2.2.1))]
abbrev wM (cI : ClassId) (mA : Nat → Nat) (m : MS) : va_W := [((mA 0), .inr (7, [.int m.1, .int m.2.1, .int m.2.2.1, .ref (mA 1), .ref (mA 2), .ref (mA 3), .ref (mA 4), .ref (mA 5), .ref (mA 6), .ref (mA 7), .ref (mA 8), .ref (mA 9), .ref (mA 10)])), ((mA 1), .inl (cI, 20, .inl m.2.2.2.1)), ((mA 2), .inl (cI, 20, .inl m.2.2.2.2.1)), ((mA 3), .inl (cI, 20, .inl m.2.2.2.2.2.1)), ((mA 4), .inl (cI, 20, .inl m.2.2.2.2.2.2.1)), ((mA 5), .inl (cI, 20, .inl m.2.2.2.2.2.2.2.1)), ((mA 6), .inl (cI, 20, .inl m.2.2.2.2.2.2.2.2.1)), ((mA 7), .inl (cI, 20, .inl m.2.2.2.2.2.2.2.2.2.1)), ((mA 8), .inl (cI, 68, .inl m.2.2.2.2.2.2.2.2.2.2.1)), ((mA 9), .inl (cI, 68, .inl m.2.2.2.2.2.2.2.2.2.2.2))]
theorem zt_X0 : zT 6 TX0 tyX0 := ⟨tyX0_ok, nmX0⟩
theorem zt_X1 : zT 11 TX1 tyX1 := ⟨tyX1_ok, nmX1⟩
theorem zt_X2 : zT 5 TX2 tyX2 := ⟨tyX2_ok, nmX2⟩
theorem zt_X3 : zT 13 TX3 tyX3 := ⟨tyX3_ok, nmX3⟩
theorem in_X0 : ∀ w ∈ u_ws RX0 TX0 6, w ∈ lw_all := by decide +kernel
theorem in_X1 : ∀ w ∈ u_ws RX1 TX1 11, w ∈ lw_all := by decide +kernel
theorem in_X2 : ∀ w ∈ u_ws RX2 TX2 5, w ∈ lw_all := by decide +kernel
theorem in_X3 : ∀ w ∈ u_ws RX3 TX3 13, w ∈ lw_all := by decide +kernel
theorem zP_fun {D : va_G} {cl : List vw_C} {ws ws' : va_W} {H : Heap} (h : va_P D cl ws H) (e : ∀ k : Nat, ∀ q q' : Nat × va_E, ws[k]? = some q → ws'[k]? = some q' → va_at D cl q H → va_at D cl q' H) (hl : ws'.length ≤ ws.length) : va_P D cl ws' H := by
  intro k q' hk
  have hlt : k < ws.length := Nat.lt_of_lt_of_le (List.getElem?_eq_some_iff.mp hk).1 hl
  exact e k _ q' (List.getElem?_eq_getElem hlt) hk (h k _ (List.getElem?_eq_getElem hlt))
theorem z_cell {cA : ClassId} {n : Nat} {f g : Nat → Int32} (h : ∀ j, j < n → f j = g j) : vp_cell cA (n, .inl f) = vp_cell cA (n, .inl g) := by
  rw [vp_cell_i, vp_cell_i]
  unfold arrV
  congr 1
  apply Array.ext
  · simp
  · intro i h1 h2
    simp at h1 ⊢
    exact h i h1
section ZCopy
variable {p : Program} {l : Launch} {e : Env} {R : Room} {s : State} {m : MethodId} {args : Array Value} {below : List Frame} {meth : Method} {c : Code} {H : Heap} {locs : List Loc} {cells slots : Nat} {Q : State → Prop}
variable {D : va_G} {cI cB cJ : ClassId} {cc : ByteArray} {own : String} {rt : Option FieldType} {nL : Nat} {pc : Nat} {ls : Array Slot} {rest : List Value} {ws : va_W} {A : Nat → Prop} {a a0 : Nat}
/-- a whole row of ints copied into another of the same length -/
theorem z_copy {index n0 : Nat} {f g : Nat → Int32} {n : Int32} (C : zC D (zty cI cB cJ) p s m args meth c cc own rt nL) (w1 : Cond.methodLink own index arraycopyName ∈ lw_all) (w2 : Cond.native arraycopyName ∈ lw_all) (w3 : Cond.static arraycopyName ∈ lw_all) (w4 : Cond.initialized "java/lang/System" ∈ lw_all) (hP : va_P D vwCl ws H) (hD : va_D A ws) (hS : va_S A s.heap H locs) (q0 q1 : Nat) (ha0 : ws[q0]? = some (a0, .inl (cI, n0, .inl f))) (ha1 : ws[q1]? = some (a, .inl (cI, n0, .inl g))) (hsz : ls.size = nL)
    (hn : ¬ n < 0) (hn0 : n.toNatClampNeg = n0) (hfr : 1 ≤ R.frames) (hlo : (rest.map fun v => v.category).sum + (nativeFrameWords "java/lang/System" "arraycopy" 5 + 11) ≤ R.locals) (hdg : decode cc pc = .ok (.invokestatic index, 3))
    (kk : ∀ (H1 : Heap) (locs1 : List Loc), va_P D vwCl (ws.set q1 (a, .inl (cI, n0, .inl f))) H1 → va_D A (ws.set q1 (a, .inl (cI, n0, .inl f))) → va_S A s.heap H1 locs1 → W p l e R s m args below meth c H1 locs1 cells slots Q (F0 m (pc + 3) ls rest)) : W p l e R s m args below meth c H locs cells slots Q (F0 m pc ls (.int n :: .int 0 :: .ref a :: .int 0 :: .ref a0 :: rest)) := by
  refine va_copyi C.1 C.2.1 (C.2.2.2.2.2.1.trans hsz.symm) C.2.2.2.1 (C.2.2.1 _ w1) (C.2.2.1 _ w2) (C.2.2.1 _ w3) (C.2.2.1 _ w4) C.2.2.2.2.2.2.2 hP hD hS q0 q1 0 0 ha0 ha1 rfl rfl rfl (by decide) (by decide) hn (by rw [hn0]; exact Nat.le_of_eq (Nat.zero_add _)) (by rw [hn0]; exact Nat.le_of_eq (Nat.zero_add _)) (fun _ _ => rfl) hfr hlo hdg (fun H1 locs1 hP1 hD1 hS1 => ?_)
  have hl1 := (List.getElem?_eq_some_iff.mp ha1).1
  refine kk H1 locs1 (zP_fun hP1 (fun k q q' hk hk' hq => ?_) (by simp)) (hD.set ha1) hS1
  by_cases hkq : k = q1
  · subst hkq
    rw [List.getElem?_set_self hl1] at hk hk'
    cases hk
    cases hk'
    refine Eq.trans hq (congrArg some (z_cell (fun j hj => ?_)))
    rw [hn0]
    show va_cpy f g 0 0 n0 j = f j
    rw [pk_cpy_in (Nat.zero_le _) (by omega)]
    congr 1
    omega
  · rw [List.getElem?_set_ne (Ne.symm hkq)] at hk hk'
    rw [hk] at hk'
    cases hk'
    exact hq
end ZCopy
end

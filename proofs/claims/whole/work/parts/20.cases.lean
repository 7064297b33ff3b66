/-! THE LAW'S CASES -/
theorem q648 : (Jvm.Cond.methodLink "PactClocksLaw" (88 : Nat) ({ cls := "PactClocksLaw", name := "addParty", desc := "(LPactClocks;I[J)I" } : Jvm.MethodName)) ∈ lw_all := mt2 155 (by decide +kernel) (by decide +kernel)
theorem q649 : (Jvm.Cond.methodLink "PactClocksLaw" (93 : Nat) ({ cls := "PactClocksModel", name := "addParty", desc := "(I)I" } : Jvm.MethodName)) ∈ lw_all := mt4 99 (by decide +kernel) (by decide +kernel)
theorem q650 : (Jvm.Cond.methodLink "PactClocksLaw" (94 : Nat) ({ cls := "PactClocksModel", name := "thrown", desc := "()I" } : Jvm.MethodName)) ∈ lw_all := mt4 95 (by decide +kernel) (by decide +kernel)
theorem q651 : (Jvm.Cond.code ({ cls := "PactClocksModel", name := "thrown", desc := "()I" } : Jvm.MethodName) prog_5_method_2_code (1 : Nat) (Option.some Jvm.ClassFile.FieldType.int)) ∈ lw_all := mt4 98 (by decide +kernel) (by decide +kernel)
theorem q652 : (Jvm.Cond.instanceMethod ({ cls := "PactClocksModel", name := "thrown", desc := "()I" } : Jvm.MethodName)) ∈ lw_all := mt4 96 (by decide +kernel) (by decide +kernel)
theorem q653 : (Jvm.Cond.selects "PactClocksModel" ({ cls := "PactClocksModel", name := "thrown", desc := "()I" } : Jvm.MethodName) ({ cls := "PactClocksModel", name := "thrown", desc := "()I" } : Jvm.MethodName)) ∈ lw_all := mt4 97 (by decide +kernel) (by decide +kernel)
theorem q654 : (Jvm.Cond.code ({ cls := "PactClocksModel", name := "addParty", desc := "(I)I" } : Jvm.MethodName) prog_5_method_23_code (2 : Nat) (Option.some Jvm.ClassFile.FieldType.int)) ∈ lw_all := mt4 102 (by decide +kernel) (by decide +kernel)
theorem q655 : (Jvm.Cond.instanceMethod ({ cls := "PactClocksModel", name := "addParty", desc := "(I)I" } : Jvm.MethodName)) ∈ lw_all := mt4 100 (by decide +kernel) (by decide +kernel)
theorem q656 : (Jvm.Cond.selects "PactClocksModel" ({ cls := "PactClocksModel", name := "addParty", desc := "(I)I" } : Jvm.MethodName) ({ cls := "PactClocksModel", name := "addParty", desc := "(I)I" } : Jvm.MethodName)) ∈ lw_all := mt4 101 (by decide +kernel) (by decide +kernel)
theorem q657 : (Jvm.Cond.methodLink "PactClocksLaw" (98 : Nat) ({ cls := "PactClocksLaw", name := "addDuty", desc := "(LPactClocks;IIIIIII[J)I" } : Jvm.MethodName)) ∈ lw_all := mt2 180 (by decide +kernel) (by decide +kernel)
theorem q658 : (Jvm.Cond.methodLink "PactClocksLaw" (101 : Nat) ({ cls := "PactClocksModel", name := "addDuty", desc := "(IIIIIII)I" } : Jvm.MethodName)) ∈ lw_all := mt4 110 (by decide +kernel) (by decide +kernel)
theorem q659 : (Jvm.Cond.code ({ cls := "PactClocksModel", name := "addDuty", desc := "(IIIIIII)I" } : Jvm.MethodName) prog_5_method_24_code (9 : Nat) (Option.some Jvm.ClassFile.FieldType.int)) ∈ lw_all := mt4 113 (by decide +kernel) (by decide +kernel)
theorem q660 : (Jvm.Cond.instanceMethod ({ cls := "PactClocksModel", name := "addDuty", desc := "(IIIIIII)I" } : Jvm.MethodName)) ∈ lw_all := mt4 111 (by decide +kernel) (by decide +kernel)
theorem q661 : (Jvm.Cond.selects "PactClocksModel" ({ cls := "PactClocksModel", name := "addDuty", desc := "(IIIIIII)I" } : Jvm.MethodName) ({ cls := "PactClocksModel", name := "addDuty", desc := "(IIIIIII)I" } : Jvm.MethodName)) ∈ lw_all := mt4 112 (by decide +kernel) (by decide +kernel)
theorem q662 : (Jvm.Cond.methodLink "PactClocksLaw" (102 : Nat) ({ cls := "PactClocksLaw", name := "pay", desc := "(LPactClocks;I[J)I" } : Jvm.MethodName)) ∈ lw_all := mt3 184 (by decide +kernel) (by decide +kernel)
theorem q663 : (Jvm.Cond.methodLink "PactClocksLaw" (104 : Nat) ({ cls := "PactClocksModel", name := "pay", desc := "(I)I" } : Jvm.MethodName)) ∈ lw_all := mt4 134 (by decide +kernel) (by decide +kernel)
theorem q664 : (Jvm.Cond.code ({ cls := "PactClocksModel", name := "pay", desc := "(I)I" } : Jvm.MethodName) prog_5_method_26_code (3 : Nat) (Option.some Jvm.ClassFile.FieldType.int)) ∈ lw_all := mt4 137 (by decide +kernel) (by decide +kernel)
theorem q665 : (Jvm.Cond.instanceMethod ({ cls := "PactClocksModel", name := "pay", desc := "(I)I" } : Jvm.MethodName)) ∈ lw_all := mt4 135 (by decide +kernel) (by decide +kernel)
theorem q666 : (Jvm.Cond.selects "PactClocksModel" ({ cls := "PactClocksModel", name := "pay", desc := "(I)I" } : Jvm.MethodName) ({ cls := "PactClocksModel", name := "pay", desc := "(I)I" } : Jvm.MethodName)) ∈ lw_all := mt4 136 (by decide +kernel) (by decide +kernel)
theorem q667 : (Jvm.Cond.methodLink "PactClocksLaw" (105 : Nat) ({ cls := "PactClocksLaw", name := "release", desc := "(LPactClocks;I[J)I" } : Jvm.MethodName)) ∈ lw_all := mt3 192 (by decide +kernel) (by decide +kernel)
theorem q668 : (Jvm.Cond.methodLink "PactClocksLaw" (107 : Nat) ({ cls := "PactClocksModel", name := "release", desc := "(I)I" } : Jvm.MethodName)) ∈ lw_all := mt4 158 (by decide +kernel) (by decide +kernel)
theorem q669 : (Jvm.Cond.code ({ cls := "PactClocksModel", name := "release", desc := "(I)I" } : Jvm.MethodName) prog_5_method_27_code (2 : Nat) (Option.some Jvm.ClassFile.FieldType.int)) ∈ lw_all := mt4 161 (by decide +kernel) (by decide +kernel)
theorem q670 : (Jvm.Cond.instanceMethod ({ cls := "PactClocksModel", name := "release", desc := "(I)I" } : Jvm.MethodName)) ∈ lw_all := mt4 159 (by decide +kernel) (by decide +kernel)
theorem q671 : (Jvm.Cond.selects "PactClocksModel" ({ cls := "PactClocksModel", name := "release", desc := "(I)I" } : Jvm.MethodName) ({ cls := "PactClocksModel", name := "release", desc := "(I)I" } : Jvm.MethodName)) ∈ lw_all := mt4 160 (by decide +kernel) (by decide +kernel)
theorem q672 : (Jvm.Cond.methodLink "PactClocksLaw" (108 : Nat) ({ cls := "PactClocksLaw", name := "stop", desc := "(LPactClocks;II[J)I" } : Jvm.MethodName)) ∈ lw_all := mt3 202 (by decide +kernel) (by decide +kernel)
theorem q673 : (Jvm.Cond.methodLink "PactClocksLaw" (111 : Nat) ({ cls := "PactClocksModel", name := "stop", desc := "(II)I" } : Jvm.MethodName)) ∈ lw_all := mt4 166 (by decide +kernel) (by decide +kernel)
theorem q674 : (Jvm.Cond.code ({ cls := "PactClocksModel", name := "stop", desc := "(II)I" } : Jvm.MethodName) prog_5_method_28_code (4 : Nat) (Option.some Jvm.ClassFile.FieldType.int)) ∈ lw_all := mt4 169 (by decide +kernel) (by decide +kernel)
theorem q675 : (Jvm.Cond.instanceMethod ({ cls := "PactClocksModel", name := "stop", desc := "(II)I" } : Jvm.MethodName)) ∈ lw_all := mt4 167 (by decide +kernel) (by decide +kernel)
theorem q676 : (Jvm.Cond.selects "PactClocksModel" ({ cls := "PactClocksModel", name := "stop", desc := "(II)I" } : Jvm.MethodName) ({ cls := "PactClocksModel", name := "stop", desc := "(II)I" } : Jvm.MethodName)) ∈ lw_all := mt4 168 (by decide +kernel) (by decide +kernel)
theorem q677 : (Jvm.Cond.methodLink "PactClocksLaw" (112 : Nat) ({ cls := "PactClocksLaw", name := "give", desc := "(LPactClocks;II[J)I" } : Jvm.MethodName)) ∈ lw_all := mt3 210 (by decide +kernel) (by decide +kernel)
theorem q678 : (Jvm.Cond.methodLink "PactClocksLaw" (114 : Nat) ({ cls := "PactClocksModel", name := "give", desc := "(II)I" } : Jvm.MethodName)) ∈ lw_all := mt4 170 (by decide +kernel) (by decide +kernel)
theorem q679 : (Jvm.Cond.code ({ cls := "PactClocksModel", name := "give", desc := "(II)I" } : Jvm.MethodName) prog_5_method_29_code (3 : Nat) (Option.some Jvm.ClassFile.FieldType.int)) ∈ lw_all := mt4 173 (by decide +kernel) (by decide +kernel)
theorem q680 : (Jvm.Cond.instanceMethod ({ cls := "PactClocksModel", name := "give", desc := "(II)I" } : Jvm.MethodName)) ∈ lw_all := mt4 171 (by decide +kernel) (by decide +kernel)
theorem q681 : (Jvm.Cond.selects "PactClocksModel" ({ cls := "PactClocksModel", name := "give", desc := "(II)I" } : Jvm.MethodName) ({ cls := "PactClocksModel", name := "give", desc := "(II)I" } : Jvm.MethodName)) ∈ lw_all := mt4 172 (by decide +kernel) (by decide +kernel)
theorem q682 : (Jvm.Cond.methodLink "PactClocksLaw" (115 : Nat) ({ cls := "PactClocksLaw", name := "pass", desc := "(LPactClocks;I[J)I" } : Jvm.MethodName)) ∈ lw_all := mt3 217 (by decide +kernel) (by decide +kernel)
theorem q683 : (Jvm.Cond.methodLink "PactClocksLaw" (117 : Nat) ({ cls := "PactClocksModel", name := "pass", desc := "(I)I" } : Jvm.MethodName)) ∈ lw_all := mt4 174 (by decide +kernel) (by decide +kernel)
theorem q684 : (Jvm.Cond.code ({ cls := "PactClocksModel", name := "pass", desc := "(I)I" } : Jvm.MethodName) prog_5_method_30_code (3 : Nat) (Option.some Jvm.ClassFile.FieldType.int)) ∈ lw_all := mt4 177 (by decide +kernel) (by decide +kernel)
theorem q685 : (Jvm.Cond.instanceMethod ({ cls := "PactClocksModel", name := "pass", desc := "(I)I" } : Jvm.MethodName)) ∈ lw_all := mt4 175 (by decide +kernel) (by decide +kernel)
theorem q686 : (Jvm.Cond.selects "PactClocksModel" ({ cls := "PactClocksModel", name := "pass", desc := "(I)I" } : Jvm.MethodName) ({ cls := "PactClocksModel", name := "pass", desc := "(I)I" } : Jvm.MethodName)) ∈ lw_all := mt4 176 (by decide +kernel) (by decide +kernel)
theorem q687 : (Jvm.Cond.methodLink "PactClocksLaw" (118 : Nat) ({ cls := "PactClocks", name := "day", desc := "()I" } : Jvm.MethodName)) ∈ lw_all := mt1 134 (by decide +kernel) (by decide +kernel)
theorem q688 : (Jvm.Cond.methodLink "PactClocksLaw" (121 : Nat) ({ cls := "PactClocksModel", name := "day", desc := "()I" } : Jvm.MethodName)) ∈ lw_all := mt4 199 (by decide +kernel) (by decide +kernel)
theorem q689 : (Jvm.Cond.code ({ cls := "PactClocksModel", name := "day", desc := "()I" } : Jvm.MethodName) prog_5_method_31_code (1 : Nat) (Option.some Jvm.ClassFile.FieldType.int)) ∈ lw_all := mt4 202 (by decide +kernel) (by decide +kernel)
theorem q690 : (Jvm.Cond.instanceMethod ({ cls := "PactClocksModel", name := "day", desc := "()I" } : Jvm.MethodName)) ∈ lw_all := mt4 200 (by decide +kernel) (by decide +kernel)
theorem q691 : (Jvm.Cond.selects "PactClocksModel" ({ cls := "PactClocksModel", name := "day", desc := "()I" } : Jvm.MethodName) ({ cls := "PactClocksModel", name := "day", desc := "()I" } : Jvm.MethodName)) ∈ lw_all := mt4 201 (by decide +kernel) (by decide +kernel)
theorem q692 : (Jvm.Cond.methodLink "PactClocksLaw" (122 : Nat) ({ cls := "PactClocks", name := "parties", desc := "()I" } : Jvm.MethodName)) ∈ lw_all := mt1 138 (by decide +kernel) (by decide +kernel)
theorem q693 : (Jvm.Cond.methodLink "PactClocksLaw" (125 : Nat) ({ cls := "PactClocksModel", name := "parties", desc := "()I" } : Jvm.MethodName)) ∈ lw_all := mt4 207 (by decide +kernel) (by decide +kernel)
theorem q694 : (Jvm.Cond.code ({ cls := "PactClocksModel", name := "parties", desc := "()I" } : Jvm.MethodName) prog_5_method_32_code (1 : Nat) (Option.some Jvm.ClassFile.FieldType.int)) ∈ lw_all := mt4 210 (by decide +kernel) (by decide +kernel)
theorem q695 : (Jvm.Cond.instanceMethod ({ cls := "PactClocksModel", name := "parties", desc := "()I" } : Jvm.MethodName)) ∈ lw_all := mt4 208 (by decide +kernel) (by decide +kernel)
theorem q696 : (Jvm.Cond.selects "PactClocksModel" ({ cls := "PactClocksModel", name := "parties", desc := "()I" } : Jvm.MethodName) ({ cls := "PactClocksModel", name := "parties", desc := "()I" } : Jvm.MethodName)) ∈ lw_all := mt4 209 (by decide +kernel) (by decide +kernel)
theorem q697 : (Jvm.Cond.methodLink "PactClocksLaw" (126 : Nat) ({ cls := "PactClocks", name := "duties", desc := "()I" } : Jvm.MethodName)) ∈ lw_all := mt1 142 (by decide +kernel) (by decide +kernel)
theorem q698 : (Jvm.Cond.methodLink "PactClocksLaw" (129 : Nat) ({ cls := "PactClocksModel", name := "duties", desc := "()I" } : Jvm.MethodName)) ∈ lw_all := mt4 211 (by decide +kernel) (by decide +kernel)
theorem q699 : (Jvm.Cond.code ({ cls := "PactClocksModel", name := "duties", desc := "()I" } : Jvm.MethodName) prog_5_method_33_code (1 : Nat) (Option.some Jvm.ClassFile.FieldType.int)) ∈ lw_all := mt4 214 (by decide +kernel) (by decide +kernel)
theorem q700 : (Jvm.Cond.instanceMethod ({ cls := "PactClocksModel", name := "duties", desc := "()I" } : Jvm.MethodName)) ∈ lw_all := mt4 212 (by decide +kernel) (by decide +kernel)
theorem q701 : (Jvm.Cond.selects "PactClocksModel" ({ cls := "PactClocksModel", name := "duties", desc := "()I" } : Jvm.MethodName) ({ cls := "PactClocksModel", name := "duties", desc := "()I" } : Jvm.MethodName)) ∈ lw_all := mt4 213 (by decide +kernel) (by decide +kernel)
theorem q702 : (Jvm.Cond.methodLink "PactClocksLaw" (130 : Nat) ({ cls := "PactClocksLaw", name := "inState", desc := "(LPactClocks;I[J)I" } : Jvm.MethodName)) ∈ lw_all := mt3 224 (by decide +kernel) (by decide +kernel)
theorem q703 : (Jvm.Cond.methodLink "PactClocksLaw" (132 : Nat) ({ cls := "PactClocksModel", name := "inState", desc := "(I)I" } : Jvm.MethodName)) ∈ lw_all := mt4 215 (by decide +kernel) (by decide +kernel)
theorem q704 : (Jvm.Cond.code ({ cls := "PactClocksModel", name := "inState", desc := "(I)I" } : Jvm.MethodName) prog_5_method_34_code (2 : Nat) (Option.some Jvm.ClassFile.FieldType.int)) ∈ lw_all := mt4 218 (by decide +kernel) (by decide +kernel)
theorem q705 : (Jvm.Cond.instanceMethod ({ cls := "PactClocksModel", name := "inState", desc := "(I)I" } : Jvm.MethodName)) ∈ lw_all := mt4 216 (by decide +kernel) (by decide +kernel)
theorem q706 : (Jvm.Cond.selects "PactClocksModel" ({ cls := "PactClocksModel", name := "inState", desc := "(I)I" } : Jvm.MethodName) ({ cls := "PactClocksModel", name := "inState", desc := "(I)I" } : Jvm.MethodName)) ∈ lw_all := mt4 217 (by decide +kernel) (by decide +kernel)
theorem q707 : (Jvm.Cond.methodLink "PactClocksLaw" (133 : Nat) ({ cls := "PactClocksLaw", name := "purseOf", desc := "(LPactClocks;I[J)I" } : Jvm.MethodName)) ∈ lw_all := mt3 228 (by decide +kernel) (by decide +kernel)
theorem q708 : (Jvm.Cond.methodLink "PactClocksLaw" (135 : Nat) ({ cls := "PactClocksModel", name := "purseOf", desc := "(I)I" } : Jvm.MethodName)) ∈ lw_all := mt4 219 (by decide +kernel) (by decide +kernel)
theorem q709 : (Jvm.Cond.code ({ cls := "PactClocksModel", name := "purseOf", desc := "(I)I" } : Jvm.MethodName) prog_5_method_35_code (2 : Nat) (Option.some Jvm.ClassFile.FieldType.int)) ∈ lw_all := mt4 222 (by decide +kernel) (by decide +kernel)
theorem q710 : (Jvm.Cond.instanceMethod ({ cls := "PactClocksModel", name := "purseOf", desc := "(I)I" } : Jvm.MethodName)) ∈ lw_all := mt4 220 (by decide +kernel) (by decide +kernel)
theorem q711 : (Jvm.Cond.selects "PactClocksModel" ({ cls := "PactClocksModel", name := "purseOf", desc := "(I)I" } : Jvm.MethodName) ({ cls := "PactClocksModel", name := "purseOf", desc := "(I)I" } : Jvm.MethodName)) ∈ lw_all := mt4 221 (by decide +kernel) (by decide +kernel)
theorem q712 : (Jvm.Cond.methodLink "PactClocksLaw" (136 : Nat) ({ cls := "PactClocks", name := "penalties", desc := "()I" } : Jvm.MethodName)) ∈ lw_all := mt1 146 (by decide +kernel) (by decide +kernel)
theorem q713 : (Jvm.Cond.methodLink "PactClocksLaw" (139 : Nat) ({ cls := "PactClocksModel", name := "penalties", desc := "()I" } : Jvm.MethodName)) ∈ lw_all := mt4 223 (by decide +kernel) (by decide +kernel)
theorem q714 : (Jvm.Cond.code ({ cls := "PactClocksModel", name := "penalties", desc := "()I" } : Jvm.MethodName) prog_5_method_36_code (1 : Nat) (Option.some Jvm.ClassFile.FieldType.int)) ∈ lw_all := mt4 226 (by decide +kernel) (by decide +kernel)
theorem q715 : (Jvm.Cond.instanceMethod ({ cls := "PactClocksModel", name := "penalties", desc := "()I" } : Jvm.MethodName)) ∈ lw_all := mt4 224 (by decide +kernel) (by decide +kernel)
theorem q716 : (Jvm.Cond.selects "PactClocksModel" ({ cls := "PactClocksModel", name := "penalties", desc := "()I" } : Jvm.MethodName) ({ cls := "PactClocksModel", name := "penalties", desc := "()I" } : Jvm.MethodName)) ∈ lw_all := mt4 225 (by decide +kernel) (by decide +kernel)
theorem q717 : (Jvm.Cond.methodLink "PactClocksLaw" (140 : Nat) ({ cls := "PactClocksLaw", name := "stateOf", desc := "(LPactClocks;I[J)I" } : Jvm.MethodName)) ∈ lw_all := mt3 232 (by decide +kernel) (by decide +kernel)
theorem q718 : (Jvm.Cond.methodLink "PactClocksLaw" (142 : Nat) ({ cls := "PactClocksModel", name := "stateOf", desc := "(I)I" } : Jvm.MethodName)) ∈ lw_all := mt4 227 (by decide +kernel) (by decide +kernel)
theorem q719 : (Jvm.Cond.code ({ cls := "PactClocksModel", name := "stateOf", desc := "(I)I" } : Jvm.MethodName) prog_5_method_38_code (2 : Nat) (Option.some Jvm.ClassFile.FieldType.int)) ∈ lw_all := mt4 230 (by decide +kernel) (by decide +kernel)
theorem q720 : (Jvm.Cond.instanceMethod ({ cls := "PactClocksModel", name := "stateOf", desc := "(I)I" } : Jvm.MethodName)) ∈ lw_all := mt4 228 (by decide +kernel) (by decide +kernel)
theorem q721 : (Jvm.Cond.selects "PactClocksModel" ({ cls := "PactClocksModel", name := "stateOf", desc := "(I)I" } : Jvm.MethodName) ({ cls := "PactClocksModel", name := "stateOf", desc := "(I)I" } : Jvm.MethodName)) ∈ lw_all := mt4 229 (by decide +kernel) (by decide +kernel)
theorem q722 : (Jvm.Cond.methodLink "PactClocksLaw" (143 : Nat) ({ cls := "PactClocksLaw", name := "daysLeft", desc := "(LPactClocks;I[J)I" } : Jvm.MethodName)) ∈ lw_all := mt3 236 (by decide +kernel) (by decide +kernel)
theorem q723 : (Jvm.Cond.methodLink "PactClocksLaw" (145 : Nat) ({ cls := "PactClocksModel", name := "daysLeft", desc := "(I)I" } : Jvm.MethodName)) ∈ lw_all := mt4 235 (by decide +kernel) (by decide +kernel)
theorem q724 : (Jvm.Cond.code ({ cls := "PactClocksModel", name := "daysLeft", desc := "(I)I" } : Jvm.MethodName) prog_5_method_39_code (2 : Nat) (Option.some Jvm.ClassFile.FieldType.int)) ∈ lw_all := mt4 238 (by decide +kernel) (by decide +kernel)
theorem q725 : (Jvm.Cond.instanceMethod ({ cls := "PactClocksModel", name := "daysLeft", desc := "(I)I" } : Jvm.MethodName)) ∈ lw_all := mt4 236 (by decide +kernel) (by decide +kernel)
theorem q726 : (Jvm.Cond.selects "PactClocksModel" ({ cls := "PactClocksModel", name := "daysLeft", desc := "(I)I" } : Jvm.MethodName) ({ cls := "PactClocksModel", name := "daysLeft", desc := "(I)I" } : Jvm.MethodName)) ∈ lw_all := mt4 237 (by decide +kernel) (by decide +kernel)
theorem q727 : (Jvm.Cond.methodLink "PactClocksLaw" (146 : Nat) ({ cls := "PactClocksLaw", name := "stoppedFor", desc := "(LPactClocks;I[J)I" } : Jvm.MethodName)) ∈ lw_all := mt4 0 (by decide +kernel) (by decide +kernel)
theorem q728 : (Jvm.Cond.methodLink "PactClocksLaw" (148 : Nat) ({ cls := "PactClocksModel", name := "stoppedFor", desc := "(I)I" } : Jvm.MethodName)) ∈ lw_all := mt4 239 (by decide +kernel) (by decide +kernel)
theorem q729 : (Jvm.Cond.code ({ cls := "PactClocksModel", name := "stoppedFor", desc := "(I)I" } : Jvm.MethodName) prog_5_method_40_code (2 : Nat) (Option.some Jvm.ClassFile.FieldType.int)) ∈ lw_all := mt5 2 (by decide +kernel) (by decide +kernel)
theorem q730 : (Jvm.Cond.instanceMethod ({ cls := "PactClocksModel", name := "stoppedFor", desc := "(I)I" } : Jvm.MethodName)) ∈ lw_all := mt5 0 (by decide +kernel) (by decide +kernel)
theorem q731 : (Jvm.Cond.selects "PactClocksModel" ({ cls := "PactClocksModel", name := "stoppedFor", desc := "(I)I" } : Jvm.MethodName) ({ cls := "PactClocksModel", name := "stoppedFor", desc := "(I)I" } : Jvm.MethodName)) ∈ lw_all := mt5 1 (by decide +kernel) (by decide +kernel)
theorem q732 : (Jvm.Cond.methodLink "PactClocksLaw" (149 : Nat) ({ cls := "PactClocksLaw", name := "priceOf", desc := "(LPactClocks;I[J)I" } : Jvm.MethodName)) ∈ lw_all := mt4 4 (by decide +kernel) (by decide +kernel)
theorem q733 : (Jvm.Cond.methodLink "PactClocksLaw" (151 : Nat) ({ cls := "PactClocksModel", name := "priceOf", desc := "(I)I" } : Jvm.MethodName)) ∈ lw_all := mt5 3 (by decide +kernel) (by decide +kernel)
theorem q734 : (Jvm.Cond.code ({ cls := "PactClocksModel", name := "priceOf", desc := "(I)I" } : Jvm.MethodName) prog_5_method_41_code (2 : Nat) (Option.some Jvm.ClassFile.FieldType.int)) ∈ lw_all := mt5 6 (by decide +kernel) (by decide +kernel)
theorem q735 : (Jvm.Cond.instanceMethod ({ cls := "PactClocksModel", name := "priceOf", desc := "(I)I" } : Jvm.MethodName)) ∈ lw_all := mt5 4 (by decide +kernel) (by decide +kernel)
theorem q736 : (Jvm.Cond.selects "PactClocksModel" ({ cls := "PactClocksModel", name := "priceOf", desc := "(I)I" } : Jvm.MethodName) ({ cls := "PactClocksModel", name := "priceOf", desc := "(I)I" } : Jvm.MethodName)) ∈ lw_all := mt5 5 (by decide +kernel) (by decide +kernel)
theorem q737 : (Jvm.Cond.methodLink "PactClocksLaw" (152 : Nat) ({ cls := "PactClocksLaw", name := "hanging", desc := "(LPactClocks;I[J)I" } : Jvm.MethodName)) ∈ lw_all := mt4 8 (by decide +kernel) (by decide +kernel)
theorem q738 : (Jvm.Cond.methodLink "PactClocksLaw" (154 : Nat) ({ cls := "PactClocksModel", name := "hanging", desc := "(I)I" } : Jvm.MethodName)) ∈ lw_all := mt5 7 (by decide +kernel) (by decide +kernel)
theorem q739 : (Jvm.Cond.code ({ cls := "PactClocksModel", name := "hanging", desc := "(I)I" } : Jvm.MethodName) prog_5_method_44_code (2 : Nat) (Option.some Jvm.ClassFile.FieldType.int)) ∈ lw_all := mt5 10 (by decide +kernel) (by decide +kernel)
theorem q740 : (Jvm.Cond.instanceMethod ({ cls := "PactClocksModel", name := "hanging", desc := "(I)I" } : Jvm.MethodName)) ∈ lw_all := mt5 8 (by decide +kernel) (by decide +kernel)
theorem q741 : (Jvm.Cond.selects "PactClocksModel" ({ cls := "PactClocksModel", name := "hanging", desc := "(I)I" } : Jvm.MethodName) ({ cls := "PactClocksModel", name := "hanging", desc := "(I)I" } : Jvm.MethodName)) ∈ lw_all := mt5 9 (by decide +kernel) (by decide +kernel)
theorem q742 : (Jvm.Cond.methodLink "PactClocksLaw" (155 : Nat) ({ cls := "PactClocksLaw", name := "depthOf", desc := "(LPactClocks;I[J)I" } : Jvm.MethodName)) ∈ lw_all := mt4 12 (by decide +kernel) (by decide +kernel)
theorem q743 : (Jvm.Cond.methodLink "PactClocksLaw" (157 : Nat) ({ cls := "PactClocksModel", name := "depthOf", desc := "(I)I" } : Jvm.MethodName)) ∈ lw_all := mt5 19 (by decide +kernel) (by decide +kernel)
theorem q744 : (Jvm.Cond.code ({ cls := "PactClocksModel", name := "depthOf", desc := "(I)I" } : Jvm.MethodName) prog_5_method_46_code (2 : Nat) (Option.some Jvm.ClassFile.FieldType.int)) ∈ lw_all := mt5 22 (by decide +kernel) (by decide +kernel)
theorem q745 : (Jvm.Cond.instanceMethod ({ cls := "PactClocksModel", name := "depthOf", desc := "(I)I" } : Jvm.MethodName)) ∈ lw_all := mt5 20 (by decide +kernel) (by decide +kernel)
theorem q746 : (Jvm.Cond.selects "PactClocksModel" ({ cls := "PactClocksModel", name := "depthOf", desc := "(I)I" } : Jvm.MethodName) ({ cls := "PactClocksModel", name := "depthOf", desc := "(I)I" } : Jvm.MethodName)) ∈ lw_all := mt5 21 (by decide +kernel) (by decide +kernel)
theorem q747 : (Jvm.Cond.methodLink "PactClocksLaw" (158 : Nat) ({ cls := "PactClocksLaw", name := "textLength", desc := "(LPactClocks;I[J)I" } : Jvm.MethodName)) ∈ lw_all := mt4 16 (by decide +kernel) (by decide +kernel)
theorem q748 : (Jvm.Cond.methodLink "PactClocksLaw" (160 : Nat) ({ cls := "PactClocksModel", name := "textLength", desc := "(I)I" } : Jvm.MethodName)) ∈ lw_all := mt5 27 (by decide +kernel) (by decide +kernel)
theorem q749 : (Jvm.Cond.code ({ cls := "PactClocksModel", name := "textLength", desc := "(I)I" } : Jvm.MethodName) prog_5_method_49_code (2 : Nat) (Option.some Jvm.ClassFile.FieldType.int)) ∈ lw_all := mt5 30 (by decide +kernel) (by decide +kernel)
theorem q750 : (Jvm.Cond.instanceMethod ({ cls := "PactClocksModel", name := "textLength", desc := "(I)I" } : Jvm.MethodName)) ∈ lw_all := mt5 28 (by decide +kernel) (by decide +kernel)
theorem q751 : (Jvm.Cond.selects "PactClocksModel" ({ cls := "PactClocksModel", name := "textLength", desc := "(I)I" } : Jvm.MethodName) ({ cls := "PactClocksModel", name := "textLength", desc := "(I)I" } : Jvm.MethodName)) ∈ lw_all := mt5 29 (by decide +kernel) (by decide +kernel)
theorem q752 : (Jvm.Cond.methodLink "PactClocksLaw" (161 : Nat) ({ cls := "PactClocksLaw", name := "sealOf", desc := "(LPactClocks;I[J)I" } : Jvm.MethodName)) ∈ lw_all := mt4 23 (by decide +kernel) (by decide +kernel)
theorem q753 : (Jvm.Cond.methodLink "PactClocksLaw" (163 : Nat) ({ cls := "PactClocksModel", name := "sealOf", desc := "(I)I" } : Jvm.MethodName)) ∈ lw_all := mt5 169 (by decide +kernel) (by decide +kernel)
theorem q754 : (Jvm.Cond.code ({ cls := "PactClocksModel", name := "sealOf", desc := "(I)I" } : Jvm.MethodName) prog_5_method_51_code (2 : Nat) (Option.some Jvm.ClassFile.FieldType.int)) ∈ lw_all := mt5 172 (by decide +kernel) (by decide +kernel)
theorem q755 : (Jvm.Cond.instanceMethod ({ cls := "PactClocksModel", name := "sealOf", desc := "(I)I" } : Jvm.MethodName)) ∈ lw_all := mt5 170 (by decide +kernel) (by decide +kernel)
theorem q756 : (Jvm.Cond.selects "PactClocksModel" ({ cls := "PactClocksModel", name := "sealOf", desc := "(I)I" } : Jvm.MethodName) ({ cls := "PactClocksModel", name := "sealOf", desc := "(I)I" } : Jvm.MethodName)) ∈ lw_all := mt5 171 (by decide +kernel) (by decide +kernel)
theorem q757 : (Jvm.Cond.methodLink "PactClocksLaw" (164 : Nat) ({ cls := "PactClocksLaw", name := "owes", desc := "(LPactClocks;I[J)I" } : Jvm.MethodName)) ∈ lw_all := mt4 27 (by decide +kernel) (by decide +kernel)
theorem q758 : (Jvm.Cond.methodLink "PactClocksLaw" (166 : Nat) ({ cls := "PactClocksModel", name := "owes", desc := "(I)I" } : Jvm.MethodName)) ∈ lw_all := mt5 178 (by decide +kernel) (by decide +kernel)
theorem q759 : (Jvm.Cond.code ({ cls := "PactClocksModel", name := "owes", desc := "(I)I" } : Jvm.MethodName) prog_5_method_53_code (2 : Nat) (Option.some Jvm.ClassFile.FieldType.int)) ∈ lw_all := mt5 181 (by decide +kernel) (by decide +kernel)
theorem q760 : (Jvm.Cond.instanceMethod ({ cls := "PactClocksModel", name := "owes", desc := "(I)I" } : Jvm.MethodName)) ∈ lw_all := mt5 179 (by decide +kernel) (by decide +kernel)
theorem q761 : (Jvm.Cond.selects "PactClocksModel" ({ cls := "PactClocksModel", name := "owes", desc := "(I)I" } : Jvm.MethodName) ({ cls := "PactClocksModel", name := "owes", desc := "(I)I" } : Jvm.MethodName)) ∈ lw_all := mt5 180 (by decide +kernel) (by decide +kernel)
theorem q762 : (Jvm.Cond.methodLink "PactClocksLaw" (167 : Nat) ({ cls := "PactClocksLaw", name := "balance", desc := "(LPactClocks;II[J)I" } : Jvm.MethodName)) ∈ lw_all := mt4 31 (by decide +kernel) (by decide +kernel)
theorem q763 : (Jvm.Cond.methodLink "PactClocksLaw" (169 : Nat) ({ cls := "PactClocksModel", name := "balance", desc := "(II)I" } : Jvm.MethodName)) ∈ lw_all := mt5 186 (by decide +kernel) (by decide +kernel)
theorem q764 : (Jvm.Cond.code ({ cls := "PactClocksModel", name := "balance", desc := "(II)I" } : Jvm.MethodName) prog_5_method_55_code (3 : Nat) (Option.some Jvm.ClassFile.FieldType.int)) ∈ lw_all := mt5 189 (by decide +kernel) (by decide +kernel)
theorem q765 : (Jvm.Cond.instanceMethod ({ cls := "PactClocksModel", name := "balance", desc := "(II)I" } : Jvm.MethodName)) ∈ lw_all := mt5 187 (by decide +kernel) (by decide +kernel)
theorem q766 : (Jvm.Cond.selects "PactClocksModel" ({ cls := "PactClocksModel", name := "balance", desc := "(II)I" } : Jvm.MethodName) ({ cls := "PactClocksModel", name := "balance", desc := "(II)I" } : Jvm.MethodName)) ∈ lw_all := mt5 188 (by decide +kernel) (by decide +kernel)
theorem q767 : (Jvm.Cond.methodLink "PactClocksLaw" (170 : Nat) ({ cls := "PactClocks", name := "weakest", desc := "()I" } : Jvm.MethodName)) ∈ lw_all := mt1 150 (by decide +kernel) (by decide +kernel)
theorem q768 : (Jvm.Cond.methodLink "PactClocksLaw" (173 : Nat) ({ cls := "PactClocksModel", name := "weakest", desc := "()I" } : Jvm.MethodName)) ∈ lw_all := mt5 194 (by decide +kernel) (by decide +kernel)
theorem q769 : (Jvm.Cond.code ({ cls := "PactClocksModel", name := "weakest", desc := "()I" } : Jvm.MethodName) prog_5_method_57_code (1 : Nat) (Option.some Jvm.ClassFile.FieldType.int)) ∈ lw_all := mt5 197 (by decide +kernel) (by decide +kernel)
theorem q770 : (Jvm.Cond.instanceMethod ({ cls := "PactClocksModel", name := "weakest", desc := "()I" } : Jvm.MethodName)) ∈ lw_all := mt5 195 (by decide +kernel) (by decide +kernel)
theorem q771 : (Jvm.Cond.selects "PactClocksModel" ({ cls := "PactClocksModel", name := "weakest", desc := "()I" } : Jvm.MethodName) ({ cls := "PactClocksModel", name := "weakest", desc := "()I" } : Jvm.MethodName)) ∈ lw_all := mt5 196 (by decide +kernel) (by decide +kernel)
theorem q772 : (Jvm.Cond.methodLink "PactClocksLaw" (174 : Nat) ({ cls := "PactClocksLaw", name := "daysUntilFailed", desc := "(LPactClocks;I[J)I" } : Jvm.MethodName)) ∈ lw_all := mt4 35 (by decide +kernel) (by decide +kernel)
theorem q773 : (Jvm.Cond.methodLink "PactClocksLaw" (176 : Nat) ({ cls := "PactClocksModel", name := "daysUntilFailed", desc := "(I)I" } : Jvm.MethodName)) ∈ lw_all := mt5 202 (by decide +kernel) (by decide +kernel)
theorem q774 : (Jvm.Cond.code ({ cls := "PactClocksModel", name := "daysUntilFailed", desc := "(I)I" } : Jvm.MethodName) prog_5_method_59_code (2 : Nat) (Option.some Jvm.ClassFile.FieldType.int)) ∈ lw_all := mt5 205 (by decide +kernel) (by decide +kernel)
theorem q775 : (Jvm.Cond.instanceMethod ({ cls := "PactClocksModel", name := "daysUntilFailed", desc := "(I)I" } : Jvm.MethodName)) ∈ lw_all := mt5 203 (by decide +kernel) (by decide +kernel)
theorem q776 : (Jvm.Cond.selects "PactClocksModel" ({ cls := "PactClocksModel", name := "daysUntilFailed", desc := "(I)I" } : Jvm.MethodName) ({ cls := "PactClocksModel", name := "daysUntilFailed", desc := "(I)I" } : Jvm.MethodName)) ∈ lw_all := mt5 204 (by decide +kernel) (by decide +kernel)
theorem q777 : (Jvm.Cond.methodLink "PactClocksLaw" (177 : Nat) ({ cls := "PactClocksLaw", name := "purseIn", desc := "(LPactClocks;II[J)I" } : Jvm.MethodName)) ∈ lw_all := mt4 39 (by decide +kernel) (by decide +kernel)
theorem q778 : (Jvm.Cond.methodLink "PactClocksLaw" (179 : Nat) ({ cls := "PactClocksModel", name := "purseIn", desc := "(II)I" } : Jvm.MethodName)) ∈ lw_all := mt5 219 (by decide +kernel) (by decide +kernel)
theorem q779 : (Jvm.Cond.code ({ cls := "PactClocksModel", name := "purseIn", desc := "(II)I" } : Jvm.MethodName) prog_5_method_61_code (3 : Nat) (Option.some Jvm.ClassFile.FieldType.int)) ∈ lw_all := mt5 222 (by decide +kernel) (by decide +kernel)
theorem q780 : (Jvm.Cond.instanceMethod ({ cls := "PactClocksModel", name := "purseIn", desc := "(II)I" } : Jvm.MethodName)) ∈ lw_all := mt5 220 (by decide +kernel) (by decide +kernel)
theorem q781 : (Jvm.Cond.selects "PactClocksModel" ({ cls := "PactClocksModel", name := "purseIn", desc := "(II)I" } : Jvm.MethodName) ({ cls := "PactClocksModel", name := "purseIn", desc := "(II)I" } : Jvm.MethodName)) ∈ lw_all := mt5 221 (by decide +kernel) (by decide +kernel)
theorem q782 : (Jvm.Cond.methodLink "PactClocksLaw" (180 : Nat) ({ cls := "PactClocksLaw", name := "bestToPay", desc := "(LPactClocks;I[J)I" } : Jvm.MethodName)) ∈ lw_all := mt4 43 (by decide +kernel) (by decide +kernel)
theorem q783 : (Jvm.Cond.methodLink "PactClocksLaw" (182 : Nat) ({ cls := "PactClocksModel", name := "bestToPay", desc := "(I)I" } : Jvm.MethodName)) ∈ lw_all := mt5 227 (by decide +kernel) (by decide +kernel)
theorem q784 : (Jvm.Cond.code ({ cls := "PactClocksModel", name := "bestToPay", desc := "(I)I" } : Jvm.MethodName) prog_5_method_63_code (2 : Nat) (Option.some Jvm.ClassFile.FieldType.int)) ∈ lw_all := mt5 230 (by decide +kernel) (by decide +kernel)
theorem q785 : (Jvm.Cond.instanceMethod ({ cls := "PactClocksModel", name := "bestToPay", desc := "(I)I" } : Jvm.MethodName)) ∈ lw_all := mt5 228 (by decide +kernel) (by decide +kernel)
theorem q786 : (Jvm.Cond.selects "PactClocksModel" ({ cls := "PactClocksModel", name := "bestToPay", desc := "(I)I" } : Jvm.MethodName) ({ cls := "PactClocksModel", name := "bestToPay", desc := "(I)I" } : Jvm.MethodName)) ∈ lw_all := mt5 229 (by decide +kernel) (by decide +kernel)
theorem q787 : (Jvm.Cond.methodLink "PactClocksLaw" (183 : Nat) ({ cls := "PactClocks", name := "meanPurse", desc := "()D" } : Jvm.MethodName)) ∈ lw_all := mt1 236 (by decide +kernel) (by decide +kernel)
theorem q788 : (Jvm.Cond.methodLink "PactClocksLaw" (187 : Nat) ({ cls := "PactClocksModel", name := "meanPurse", desc := "()D" } : Jvm.MethodName)) ∈ lw_all := mt5 235 (by decide +kernel) (by decide +kernel)
theorem q789 : (Jvm.Cond.code ({ cls := "PactClocksModel", name := "meanPurse", desc := "()D" } : Jvm.MethodName) prog_5_method_64_code (3 : Nat) (Option.some Jvm.ClassFile.FieldType.double)) ∈ lw_all := mt5 238 (by decide +kernel) (by decide +kernel)
theorem q790 : (Jvm.Cond.instanceMethod ({ cls := "PactClocksModel", name := "meanPurse", desc := "()D" } : Jvm.MethodName)) ∈ lw_all := mt5 236 (by decide +kernel) (by decide +kernel)
theorem q791 : (Jvm.Cond.selects "PactClocksModel" ({ cls := "PactClocksModel", name := "meanPurse", desc := "()D" } : Jvm.MethodName) ({ cls := "PactClocksModel", name := "meanPurse", desc := "()D" } : Jvm.MethodName)) ∈ lw_all := mt5 237 (by decide +kernel) (by decide +kernel)
theorem q792 : (Jvm.Cond.code ({ cls := "PactClocks", name := "meanPurse", desc := "()D" } : Jvm.MethodName) prog_1_method_29_code (3 : Nat) (Option.some Jvm.ClassFile.FieldType.double)) ∈ lw_all := mt1 239 (by decide +kernel) (by decide +kernel)
theorem q793 : (Jvm.Cond.instanceMethod ({ cls := "PactClocks", name := "meanPurse", desc := "()D" } : Jvm.MethodName)) ∈ lw_all := mt1 237 (by decide +kernel) (by decide +kernel)
theorem q794 : (Jvm.Cond.selects "PactClocks" ({ cls := "PactClocks", name := "meanPurse", desc := "()D" } : Jvm.MethodName) ({ cls := "PactClocks", name := "meanPurse", desc := "()D" } : Jvm.MethodName)) ∈ lw_all := mt1 238 (by decide +kernel) (by decide +kernel)
theorem q795 : (Jvm.Cond.methodLink "PactClocksLaw" (188 : Nat) ({ cls := "PactClocks", name := "digest", desc := "()J" } : Jvm.MethodName)) ∈ lw_all := mt2 0 (by decide +kernel) (by decide +kernel)
theorem q796 : (Jvm.Cond.methodLink "PactClocksLaw" (192 : Nat) ({ cls := "PactClocksModel", name := "digest", desc := "()J" } : Jvm.MethodName)) ∈ lw_all := mt5 239 (by decide +kernel) (by decide +kernel)
theorem q797 : (Jvm.Cond.code ({ cls := "PactClocksModel", name := "digest", desc := "()J" } : Jvm.MethodName) prog_5_method_65_code (9 : Nat) (Option.some Jvm.ClassFile.FieldType.long)) ∈ lw_all := mt6 2 (by decide +kernel) (by decide +kernel)
theorem q798 : (Jvm.Cond.instanceMethod ({ cls := "PactClocksModel", name := "digest", desc := "()J" } : Jvm.MethodName)) ∈ lw_all := mt6 0 (by decide +kernel) (by decide +kernel)
theorem q799 : (Jvm.Cond.selects "PactClocksModel" ({ cls := "PactClocksModel", name := "digest", desc := "()J" } : Jvm.MethodName) ({ cls := "PactClocksModel", name := "digest", desc := "()J" } : Jvm.MethodName)) ∈ lw_all := mt6 1 (by decide +kernel) (by decide +kernel)
theorem q800 : (Jvm.Cond.code ({ cls := "PactClocks", name := "digest", desc := "()J" } : Jvm.MethodName) prog_1_method_30_code (5 : Nat) (Option.some Jvm.ClassFile.FieldType.long)) ∈ lw_all := mt2 3 (by decide +kernel) (by decide +kernel)
theorem q801 : (Jvm.Cond.instanceMethod ({ cls := "PactClocks", name := "digest", desc := "()J" } : Jvm.MethodName)) ∈ lw_all := mt2 1 (by decide +kernel) (by decide +kernel)
theorem q802 : (Jvm.Cond.selects "PactClocks" ({ cls := "PactClocks", name := "digest", desc := "()J" } : Jvm.MethodName) ({ cls := "PactClocks", name := "digest", desc := "()J" } : Jvm.MethodName)) ∈ lw_all := mt2 2 (by decide +kernel) (by decide +kernel)
theorem v_X3_thrown : zV yX3_thrown cX3_thrown 1 (some .int) 0 := ⟨q652, q653, q63, q651, by decide +kernel, by decide +kernel, by decide +kernel⟩
theorem v_X3_addParty : zV yX3_addParty cX3_addParty 2 (some .int) 1 := ⟨q655, q656, q63, q654, by decide +kernel, by decide +kernel, by decide +kernel⟩
theorem v_X3_addDuty : zV yX3_addDuty cX3_addDuty 9 (some .int) 7 := ⟨q660, q661, q63, q659, by decide +kernel, by decide +kernel, by decide +kernel⟩
theorem v_X3_pay : zV yX3_pay cX3_pay 3 (some .int) 1 := ⟨q665, q666, q63, q664, by decide +kernel, by decide +kernel, by decide +kernel⟩
theorem v_X3_release : zV yX3_release cX3_release 2 (some .int) 1 := ⟨q670, q671, q63, q669, by decide +kernel, by decide +kernel, by decide +kernel⟩
theorem v_X3_stop : zV yX3_stop cX3_stop 4 (some .int) 2 := ⟨q675, q676, q63, q674, by decide +kernel, by decide +kernel, by decide +kernel⟩
theorem v_X3_give : zV yX3_give cX3_give 3 (some .int) 2 := ⟨q680, q681, q63, q679, by decide +kernel, by decide +kernel, by decide +kernel⟩
theorem v_X3_pass : zV yX3_pass cX3_pass 3 (some .int) 1 := ⟨q685, q686, q63, q684, by decide +kernel, by decide +kernel, by decide +kernel⟩
theorem v_X3_day : zV yX3_day cX3_day 1 (some .int) 0 := ⟨q690, q691, q63, q689, by decide +kernel, by decide +kernel, by decide +kernel⟩
theorem v_X3_parties : zV yX3_parties cX3_parties 1 (some .int) 0 := ⟨q695, q696, q63, q694, by decide +kernel, by decide +kernel, by decide +kernel⟩
theorem v_X3_duties : zV yX3_duties cX3_duties 1 (some .int) 0 := ⟨q700, q701, q63, q699, by decide +kernel, by decide +kernel, by decide +kernel⟩
theorem v_X3_inState : zV yX3_inState cX3_inState 2 (some .int) 1 := ⟨q705, q706, q63, q704, by decide +kernel, by decide +kernel, by decide +kernel⟩
theorem v_X3_purseOf : zV yX3_purseOf cX3_purseOf 2 (some .int) 1 := ⟨q710, q711, q63, q709, by decide +kernel, by decide +kernel, by decide +kernel⟩
theorem v_X3_penalties : zV yX3_penalties cX3_penalties 1 (some .int) 0 := ⟨q715, q716, q63, q714, by decide +kernel, by decide +kernel, by decide +kernel⟩
theorem v_X3_stateOf : zV yX3_stateOf cX3_stateOf 2 (some .int) 1 := ⟨q720, q721, q63, q719, by decide +kernel, by decide +kernel, by decide +kernel⟩
theorem v_X3_daysLeft : zV yX3_daysLeft cX3_daysLeft 2 (some .int) 1 := ⟨q725, q726, q63, q724, by decide +kernel, by decide +kernel, by decide +kernel⟩
theorem v_X3_stoppedFor : zV yX3_stoppedFor cX3_stoppedFor 2 (some .int) 1 := ⟨q730, q731, q63, q729, by decide +kernel, by decide +kernel, by decide +kernel⟩
theorem v_X3_priceOf : zV yX3_priceOf cX3_priceOf 2 (some .int) 1 := ⟨q735, q736, q63, q734, by decide +kernel, by decide +kernel, by decide +kernel⟩
theorem v_X3_hanging : zV yX3_hanging cX3_hanging 2 (some .int) 1 := ⟨q740, q741, q63, q739, by decide +kernel, by decide +kernel, by decide +kernel⟩
theorem v_X3_depthOf : zV yX3_depthOf cX3_depthOf 2 (some .int) 1 := ⟨q745, q746, q63, q744, by decide +kernel, by decide +kernel, by decide +kernel⟩
theorem v_X3_textLength : zV yX3_textLength cX3_textLength 2 (some .int) 1 := ⟨q750, q751, q63, q749, by decide +kernel, by decide +kernel, by decide +kernel⟩
theorem v_X3_sealOf : zV yX3_sealOf cX3_sealOf 2 (some .int) 1 := ⟨q755, q756, q63, q754, by decide +kernel, by decide +kernel, by decide +kernel⟩
theorem v_X3_owes : zV yX3_owes cX3_owes 2 (some .int) 1 := ⟨q760, q761, q63, q759, by decide +kernel, by decide +kernel, by decide +kernel⟩
theorem v_X3_balance : zV yX3_balance cX3_balance 3 (some .int) 2 := ⟨q765, q766, q63, q764, by decide +kernel, by decide +kernel, by decide +kernel⟩
theorem v_X3_weakest : zV yX3_weakest cX3_weakest 1 (some .int) 0 := ⟨q770, q771, q63, q769, by decide +kernel, by decide +kernel, by decide +kernel⟩
theorem v_X3_daysUntilFailed : zV yX3_daysUntilFailed cX3_daysUntilFailed 2 (some .int) 1 := ⟨q775, q776, q63, q774, by decide +kernel, by decide +kernel, by decide +kernel⟩
theorem v_X3_purseIn : zV yX3_purseIn cX3_purseIn 3 (some .int) 2 := ⟨q780, q781, q63, q779, by decide +kernel, by decide +kernel, by decide +kernel⟩
theorem v_X3_bestToPay : zV yX3_bestToPay cX3_bestToPay 2 (some .int) 1 := ⟨q785, q786, q63, q784, by decide +kernel, by decide +kernel, by decide +kernel⟩
theorem v_X3_meanPurse : zV yX3_meanPurse cX3_meanPurse 3 (some .double) 0 := ⟨q790, q791, q63, q789, by decide +kernel, by decide +kernel, by decide +kernel⟩
theorem v_X2_meanPurse : zV yX2_meanPurse cX2_meanPurse 3 (some .double) 0 := ⟨q793, q794, q202, q792, by decide +kernel, by decide +kernel, by decide +kernel⟩
theorem v_X3_digest : zV yX3_digest cX3_digest 9 (some .long) 0 := ⟨q798, q799, q63, q797, by decide +kernel, by decide +kernel, by decide +kernel⟩
theorem v_X2_digest : zV yX2_digest cX2_digest 5 (some .long) 0 := ⟨q801, q802, q202, q800, by decide +kernel, by decide +kernel, by decide +kernel⟩
def wpLc_172 (K : Int32 → DS → MS → SS → (Nat → Int64) → Prop) (L : Nat) (xs : Nat → Int32) (i : Int32) (d : DS) (mo : MS) (x : SS) (w : Nat → Int64) : Prop := vp_in (i + 1) L ∧ (wpL_addParty (fun r180 d180 w180 => vp_in (i + 1) L ∧ (wpX3_addParty (fun r192 mo192 => wpX3_thrown (fun r198 => (r198 = r180 → (r180 = 0 → ((lg_cmp (w180 (0 : Int32).toNatClampNeg) r192.toInt64) = 0 → K (i + 8) d180 mo192 x w180) ∧ (¬ (lg_cmp (w180 (0 : Int32).toNatClampNeg) r192.toInt64) = 0 → False)) ∧ (¬ r180 = 0 → K (i + 8) d180 mo192 x w180)) ∧ (¬ r198 = r180 → False)) mo192) mo (xs (i + 1).toNatClampNeg))) d w (xs (i + 1).toNatClampNeg))
set_option maxHeartbeats 4000000 in
set_option maxRecDepth 100000 in
theorem lc_172 {p : Program} {l : Launch} {e : Env} {s : State} {m : MethodId} {below : List Frame} {meth : Method} {c : Code} {b L : Nat} {xs : Nat → Int32} {D : va_G} {cI cB cJ : ClassId} {dA bA aA tA mA oA : Nat → Nat} {Q : State → Prop} {cells slots : Nat} {K : Int32 → DS → MS → SS → (Nat → Int64) → Prop} (hfl : l.stackTraces = false) (hs0 : zS s) (C : zC D (zty cI cB cJ) p s m #[Value.ref b] meth c cL_law RL ret 9) (hA : ∀ q : Nat, s.heap.size ≤ q → (fun q : Nat => s.heap.size ≤ q) q) (hG : zG s (fun q : Nat => s.heap.size ≤ q) s s.heap) (hX : va_X b L xs s s.heap) (hbl : b < s.heap.size) (hcs : cells + 210 ≤ 635979 ∧ slots + 6594 ≤ 7188166)
    (hk : ∀ (i : Int32) (d : DS) (mo : MS) (x : SS) (w : Nat → Int64) (H : Heap) (locs : List Loc), va_P D vwCl (wD cI dA bA aA tA d ++ wM cI mA mo ++ wS cB (fun _ : Nat => mA 10) x ++ [((oA 0), .inl (cJ, 1, .inr (.inl w)))]) H → va_D (fun q : Nat => s.heap.size ≤ q) (wD cI dA bA aA tA d ++ wM cI mA mo ++ wS cB (fun _ : Nat => mA 10) x ++ [((oA 0), .inl (cJ, 1, .inr (.inl w)))]) → va_S (fun q : Nat => s.heap.size ≤ q) s.heap H locs → ∀ ls : Array Slot, lv_has ls 9 [(0, .ref b), (1, .ref (dA 0)), (2, .ref (mA 0)), (3, .ref (oA 0)), (4, .int i)] → K i d mo x w → W p l e room_1 s m #[Value.ref b] below meth c H locs (cells + 210) (slots + 6594) Q (F0 m 23 ls []))
    (i : Int32) (d : DS) (mo : MS) (x : SS) (w : Nat → Int64) (H : Heap) (locs : List Loc) (hP : va_P D vwCl (wD cI dA bA aA tA d ++ wM cI mA mo ++ wS cB (fun _ : Nat => mA 10) x ++ [((oA 0), .inl (cJ, 1, .inr (.inl w)))]) H) (hD : va_D (fun q : Nat => s.heap.size ≤ q) (wD cI dA bA aA tA d ++ wM cI mA mo ++ wS cB (fun _ : Nat => mA 10) x ++ [((oA 0), .inl (cJ, 1, .inr (.inl w)))])) (hS : va_S (fun q : Nat => s.heap.size ≤ q) s.heap H locs) (ls : Array Slot) (hl : lv_has ls 9 [(0, .ref b), (1, .ref (dA 0)), (2, .ref (mA 0)), (3, .ref (oA 0)), (4, .int i)]) (h : wpLc_172 K L xs i d mo x w) : W p l e room_1 s m #[Value.ref b] below meth c H locs cells slots Q (F0 m 172 ls []) := by
  have hx := C.1
  have hb := C.2.1
  have hts := C.2.2.1
  have hown := C.2.2.2.1
  have hml := C.2.2.2.2.2.1
  have hK := C.2.2.2.2.2.2.2
  have hbA : ¬ (fun q : Nat => s.heap.size ≤ q) b := Nat.not_le.mpr hbl
  unfold wpLc_172 at h
  refine lv_aload_n hx hb dL_law_172 rfl (lv_at hl 1 rfl) ?_
  refine lv_aload_n hx hb dL_law_173 rfl (lv_at hl 0 rfl) ?_
  refine lv_iload hx hb dL_law_174 (lv_at hl 4 rfl) ?_
  refine lv_iconst (v := 1) hx hb dL_law_176 (by decide) ?_
  refine lv_iadd hx hb dL_law_177 ?_
  obtain ⟨g9, h⟩ := h
  refine va_sld hx hb hX hbl hbA hS g9 dL_law_178 ?_
  refine lv_aload_n hx hb dL_law_179 rfl (lv_at hl 3 rfl) ?_
  refine z_WH (As := [.ref (dA 0), .int (xs (i + 1).toNatClampNeg), .ref (oA 0)]) (rest := []) (wr := (wM cI mA mo ++ wS cB (fun _ : Nat => mA 10) x : va_W)) (wN := (fun u : Int32 × DS × (Nat → Int64) => wD cI dA bA aA tA u.2.1 ++ wM cI mA mo ++ wS cB (fun _ : Nat => mA 10) x ++ [((oA 0), .inl (cJ, 1, .inr (.inl u.2.2)))])) [0, 1, 2, 3, 4, 5, 6, 7, 8, 9, 10, 11, 12, 13, 14, 15, 16, 17, 18, 19, 20, 21, 34] [22, 23, 24, 25, 26, 27, 28, 29, 30, 31, 32, 33] [12, 13, 14, 15, 16, 17, 18, 19, 20, 21, 22, 23, 24, 25, 26, 27, 28, 29, 30, 31, 32, 33, 0, 1, 2, 3, 4, 5, 6, 7, 8, 9, 10, 11, 34] C hG hA hP hD hS (c_L_addParty hfl hs0 D cI cB cJ dA bA aA tA oA d w (xs (i + 1).toNatClampNeg) h) q648 v_L_addParty rfl rfl ⟨by decide, by decide, by decide⟩ (by decide) (fun _ => rfl) rfl ⟨(by first | (dsimp only [room_1]; omega) | omega | exact Nat.le_of_ble_eq_true rfl), (by first | (dsimp only [room_1]; omega) | omega | exact Nat.le_of_ble_eq_true rfl)⟩ ⟨(by first | (dsimp only [room_1]; omega) | omega | exact Nat.le_of_ble_eq_true rfl), (by first | (dsimp only [room_1]; omega) | omega | exact Nat.le_of_ble_eq_true rfl)⟩ hl.1 rfl (lv_room (by first | (dsimp only [room_1]; omega) | omega | exact Nat.le_of_ble_eq_true rfl)) dL_law_180 (fun u H locs h hP hD hS => ?_)
  obtain ⟨r180, d180, w180⟩ := u
  have hP : va_P D vwCl (wD cI dA bA aA tA d180 ++ wM cI mA mo ++ wS cB (fun _ : Nat => mA 10) x ++ [((oA 0), .inl (cJ, 1, .inr (.inl w180)))]) H := hP
  have hD : va_D (fun q : Nat => s.heap.size ≤ q) (wD cI dA bA aA tA d180 ++ wM cI mA mo ++ wS cB (fun _ : Nat => mA 10) x ++ [((oA 0), .inl (cJ, 1, .inr (.inl w180)))]) := hD
  refine lv_istore (lv' := [(5, .int r180), (0, .ref b), (1, .ref (dA 0)), (2, .ref (mA 0)), (3, .ref (oA 0)), (4, .int i)]) hx hb dL_law_183 hl (by decide) rfl (fun ls hl => ?_)
  refine lv_aload_n hx hb dL_law_185 rfl (lv_at hl 3 rfl) ?_
  refine lv_aload_n hx hb dL_law_186 rfl (lv_at hl 1 rfl) ?_
  refine lv_iload hx hb dL_law_187 (lv_at hl 5 rfl) ?_
  refine lv_iconst (v := 1) hx hb dL_law_189 (by decide) ?_
  refine lv_iadd hx hb dL_law_190 ?_
  obtain ⟨g9, h⟩ := h
  refine va_sld hx hb hX hbl hbA hS g9 dL_law_191 ?_
  refine z_WV (As := [.int (xs (i + 1).toNatClampNeg)]) (rest := []) (wr := (wD cI dA bA aA tA d180 ++ wS cB (fun _ : Nat => mA 10) x ++ [((oA 0), .inl (cJ, 1, .inr (.inl w180)))] : va_W)) (wN := (fun u : Int32 × MS => wD cI dA bA aA tA d180 ++ wM cI mA u.2 ++ wS cB (fun _ : Nat => mA 10) x ++ [((oA 0), .inl (cJ, 1, .inr (.inl w180)))])) [22, 23, 24, 25, 26, 27, 28, 29, 30, 31] [0, 1, 2, 3, 4, 5, 6, 7, 8, 9, 10, 11, 12, 13, 14, 15, 16, 17, 18, 19, 20, 21, 32, 33, 34] [0, 1, 2, 3, 4, 5, 6, 7, 8, 9, 10, 11, 12, 13, 14, 15, 16, 17, 18, 19, 20, 21, 25, 26, 27, 28, 29, 30, 31, 32, 33, 34, 22, 23, 24] C hG hA hP hD hS (c_X3_addParty hfl hs0 D cI cB cJ mA mo (xs (i + 1).toNatClampNeg) h) q649 v_X3_addParty rfl rfl ⟨by decide, by decide, by decide⟩ (by decide) (fun _ => rfl) rfl rfl rfl ⟨(by first | (dsimp only [room_1]; omega) | omega | exact Nat.le_of_ble_eq_true rfl), (by first | (dsimp only [room_1]; omega) | omega | exact Nat.le_of_ble_eq_true rfl)⟩ ⟨(by first | (dsimp only [room_1]; omega) | omega | exact Nat.le_of_ble_eq_true rfl), (by first | (dsimp only [room_1]; omega) | omega | exact Nat.le_of_ble_eq_true rfl)⟩ hl.1 rfl (lv_room (by first | (dsimp only [room_1]; omega) | omega | exact Nat.le_of_ble_eq_true rfl)) dL_law_192 (fun u H locs h hP hD hS => ?_)
  obtain ⟨r192, mo192⟩ := u
  have hP : va_P D vwCl (wD cI dA bA aA tA d180 ++ wM cI mA mo192 ++ wS cB (fun _ : Nat => mA 10) x ++ [((oA 0), .inl (cJ, 1, .inr (.inl w180)))]) H := hP
  have hD : va_D (fun q : Nat => s.heap.size ≤ q) (wD cI dA bA aA tA d180 ++ wM cI mA mo192 ++ wS cB (fun _ : Nat => mA 10) x ++ [((oA 0), .inl (cJ, 1, .inr (.inl w180)))]) := hD
  refine lv_istore (lv' := [(6, .int r192), (5, .int r180), (0, .ref b), (1, .ref (dA 0)), (2, .ref (mA 0)), (3, .ref (oA 0)), (4, .int i)]) hx hb dL_law_195 hl (by decide) rfl (fun ls hl => ?_)
  refine lv_aload_n hx hb dL_law_197 rfl (lv_at hl 4 rfl) ?_
  refine z_RV (As := []) (rest := []) [22, 23, 24, 25, 26, 27, 28, 29, 30, 31] C (hG.kept hS.1 hS.2.1).none hP (c_X3_thrown hfl hs0 D cI cB cJ mA mo192 h) q650 v_X3_thrown rfl rfl rfl rfl ⟨(by first | (dsimp only [room_1]; omega) | omega | exact Nat.le_of_ble_eq_true rfl), (by first | (dsimp only [room_1]; omega) | omega | exact Nat.le_of_ble_eq_true rfl)⟩ ⟨(by first | (dsimp only [room_1]; omega) | omega | exact Nat.le_of_ble_eq_true rfl), (by first | (dsimp only [room_1]; omega) | omega | exact Nat.le_of_ble_eq_true rfl)⟩ hl.1 rfl (lv_room (by first | (dsimp only [room_1]; omega) | omega | exact Nat.le_of_ble_eq_true rfl)) dL_law_198 (fun r198 h => ?_)
  refine lv_iload hx hb dL_law_201 (lv_at hl 1 rfl) ?_
  refine lv_icmp_eq (tgt := 208) hx hb dL_law_203 (by decide) (fun c203 => ?_) (fun c203 => ?_)
  · have h := h.1 c203
    refine lv_iload hx hb dL_law_208 (lv_at hl 1 rfl) ?_
    refine lv_if_ne (tgt := 225) hx hb dL_law_210 (by decide) (fun c210 => ?_) (fun c210 => ?_)
    · have h := h.2 c210
      refine lv_goto (tgt := 1648) hx hb dL_law_225 (by decide) ?_
      refine lv_iinc (v := (i + 8)) (lv' := [(4, .int (i + 8)), (6, .int r192), (5, .int r180), (0, .ref b), (1, .ref (dA 0)), (2, .ref (mA 0)), (3, .ref (oA 0))]) hx hb dL_law_1648 hl (k := 6) rfl (by first | rfl | decide) (by decide) rfl (fun ls hl => ?_)
      refine lv_goto (tgt := 23) hx hb dL_law_1651 (by decide) ?_
      refine W.widen (k := cells + 210) (n := slots + 6594) (by first | (dsimp only [room_1]; omega) | omega | exact Nat.le_of_ble_eq_true rfl) (by first | (dsimp only [room_1]; omega) | omega | exact Nat.le_of_ble_eq_true rfl) ?_
      exact hk _ _ _ _ _ _ _ hP hD hS _ (lv_sub hl [3, 4, 5, 6, 0] rfl) h
    · have h := h.1 c210
      refine lv_aload_n hx hb dL_law_213 rfl (lv_at hl 5 rfl) ?_
      refine lv_iconst (v := 0) hx hb dL_law_214 (by decide) ?_
      refine va_lald hx hb hK hP 34 2 rfl rfl (show ¬ ((0 : Int32) < 0 ∨ 1 ≤ (0 : Int32).toNatClampNeg) from by decide) dL_law_215 ?_
      refine lv_iload hx hb dL_law_216 (lv_at hl 0 rfl) ?_
      refine lv_i2l hx hb dL_law_218 rfl ?_
      refine W.lcmp hx hb dL_law_219 ?_
      refine lv_if_eq (tgt := 225) hx hb dL_law_220 (by decide) (fun c220 => ?_) (fun c220 => ?_)
      · have h := h.1 c220
        refine lv_goto (tgt := 1648) hx hb dL_law_225 (by decide) ?_
        refine lv_iinc (v := (i + 8)) (lv' := [(4, .int (i + 8)), (6, .int r192), (5, .int r180), (0, .ref b), (1, .ref (dA 0)), (2, .ref (mA 0)), (3, .ref (oA 0))]) hx hb dL_law_1648 hl (k := 6) rfl (by first | rfl | decide) (by decide) rfl (fun ls hl => ?_)
        refine lv_goto (tgt := 23) hx hb dL_law_1651 (by decide) ?_
        refine W.widen (k := cells + 210) (n := slots + 6594) (by first | (dsimp only [room_1]; omega) | omega | exact Nat.le_of_ble_eq_true rfl) (by first | (dsimp only [room_1]; omega) | omega | exact Nat.le_of_ble_eq_true rfl) ?_
        exact hk _ _ _ _ _ _ _ hP hD hS _ (lv_sub hl [3, 4, 5, 6, 0] rfl) h
      · have h := h.2 c220
        refine lv_iconst (v := 0) hx hb dL_law_223 (by decide) ?_
        exact (show False from h).elim
  · have h := h.2 c203
    refine lv_iconst (v := 0) hx hb dL_law_206 (by decide) ?_
    exact (show False from h).elim
def wpLc_228 (K : Int32 → DS → MS → SS → (Nat → Int64) → Prop) (L : Nat) (xs : Nat → Int32) (i : Int32) (d : DS) (mo : MS) (x : SS) (w : Nat → Int64) : Prop := vp_in (i + 1) L ∧ (vp_in (i + 2) L ∧ (vp_in (i + 3) L ∧ (vp_in (i + 4) L ∧ (vp_in (i + 5) L ∧ (vp_in (i + 6) L ∧ (vp_in (i + 7) L ∧ (wpL_addDuty (fun r274 d274 w274 => vp_in (i + 1) L ∧ (vp_in (i + 2) L ∧ (vp_in (i + 3) L ∧ (vp_in (i + 4) L ∧ (vp_in (i + 5) L ∧ (vp_in (i + 6) L ∧ (vp_in (i + 7) L ∧ (wpX3_addDuty (fun r324 mo324 => wpX3_thrown (fun r330 => (r330 = r274 → (r274 = 0 → ((lg_cmp (w274 (0 : Int32).toNatClampNeg) r324.toInt64) = 0 → K (i + 8) d274 mo324 x w274) ∧ (¬ (lg_cmp (w274 (0 : Int32).toNatClampNeg) r324.toInt64) = 0 → False)) ∧ (¬ r274 = 0 → K (i + 8) d274 mo324 x w274)) ∧ (¬ r330 = r274 → False)) mo324) mo (xs (i + 1).toNatClampNeg) (xs (i + 2).toNatClampNeg) (xs (i + 3).toNatClampNeg) (xs (i + 4).toNatClampNeg) (xs (i + 5).toNatClampNeg) (xs (i + 6).toNatClampNeg) (xs (i + 7).toNatClampNeg))))))))) d w (xs (i + 1).toNatClampNeg) (xs (i + 2).toNatClampNeg) (xs (i + 3).toNatClampNeg) (xs (i + 4).toNatClampNeg) (xs (i + 5).toNatClampNeg) (xs (i + 6).toNatClampNeg) (xs (i + 7).toNatClampNeg))))))))
set_option maxHeartbeats 4000000 in
set_option maxRecDepth 100000 in
theorem lc_228 {p : Program} {l : Launch} {e : Env} {s : State} {m : MethodId} {below : List Frame} {meth : Method} {c : Code} {b L : Nat} {xs : Nat → Int32} {D : va_G} {cI cB cJ : ClassId} {dA bA aA tA mA oA : Nat → Nat} {Q : State → Prop} {cells slots : Nat} {K : Int32 → DS → MS → SS → (Nat → Int64) → Prop} (hfl : l.stackTraces = false) (hs0 : zS s) (C : zC D (zty cI cB cJ) p s m #[Value.ref b] meth c cL_law RL ret 9) (hA : ∀ q : Nat, s.heap.size ≤ q → (fun q : Nat => s.heap.size ≤ q) q) (hG : zG s (fun q : Nat => s.heap.size ≤ q) s s.heap) (hX : va_X b L xs s s.heap) (hbl : b < s.heap.size) (hcs : cells + 210 ≤ 635979 ∧ slots + 6594 ≤ 7188166)
    (hk : ∀ (i : Int32) (d : DS) (mo : MS) (x : SS) (w : Nat → Int64) (H : Heap) (locs : List Loc), va_P D vwCl (wD cI dA bA aA tA d ++ wM cI mA mo ++ wS cB (fun _ : Nat => mA 10) x ++ [((oA 0), .inl (cJ, 1, .inr (.inl w)))]) H → va_D (fun q : Nat => s.heap.size ≤ q) (wD cI dA bA aA tA d ++ wM cI mA mo ++ wS cB (fun _ : Nat => mA 10) x ++ [((oA 0), .inl (cJ, 1, .inr (.inl w)))]) → va_S (fun q : Nat => s.heap.size ≤ q) s.heap H locs → ∀ ls : Array Slot, lv_has ls 9 [(0, .ref b), (1, .ref (dA 0)), (2, .ref (mA 0)), (3, .ref (oA 0)), (4, .int i)] → K i d mo x w → W p l e room_1 s m #[Value.ref b] below meth c H locs (cells + 210) (slots + 6594) Q (F0 m 23 ls []))
    (i : Int32) (d : DS) (mo : MS) (x : SS) (w : Nat → Int64) (H : Heap) (locs : List Loc) (hP : va_P D vwCl (wD cI dA bA aA tA d ++ wM cI mA mo ++ wS cB (fun _ : Nat => mA 10) x ++ [((oA 0), .inl (cJ, 1, .inr (.inl w)))]) H) (hD : va_D (fun q : Nat => s.heap.size ≤ q) (wD cI dA bA aA tA d ++ wM cI mA mo ++ wS cB (fun _ : Nat => mA 10) x ++ [((oA 0), .inl (cJ, 1, .inr (.inl w)))])) (hS : va_S (fun q : Nat => s.heap.size ≤ q) s.heap H locs) (ls : Array Slot) (hl : lv_has ls 9 [(0, .ref b), (1, .ref (dA 0)), (2, .ref (mA 0)), (3, .ref (oA 0)), (4, .int i)]) (h : wpLc_228 K L xs i d mo x w) : W p l e room_1 s m #[Value.ref b] below meth c H locs cells slots Q (F0 m 228 ls []) := by
  have hx := C.1
  have hb := C.2.1
  have hts := C.2.2.1
  have hown := C.2.2.2.1
  have hml := C.2.2.2.2.2.1
  have hK := C.2.2.2.2.2.2.2
  have hbA : ¬ (fun q : Nat => s.heap.size ≤ q) b := Nat.not_le.mpr hbl
  unfold wpLc_228 at h
  refine lv_aload_n hx hb dL_law_228 rfl (lv_at hl 1 rfl) ?_
  refine lv_aload_n hx hb dL_law_229 rfl (lv_at hl 0 rfl) ?_
  refine lv_iload hx hb dL_law_230 (lv_at hl 4 rfl) ?_
  refine lv_iconst (v := 1) hx hb dL_law_232 (by decide) ?_
  refine lv_iadd hx hb dL_law_233 ?_
  obtain ⟨g9, h⟩ := h
  refine va_sld hx hb hX hbl hbA hS g9 dL_law_234 ?_
  refine lv_aload_n hx hb dL_law_235 rfl (lv_at hl 0 rfl) ?_
  refine lv_iload hx hb dL_law_236 (lv_at hl 4 rfl) ?_
  refine lv_iconst (v := 2) hx hb dL_law_238 (by decide) ?_
  refine lv_iadd hx hb dL_law_239 ?_
  obtain ⟨g9, h⟩ := h
  refine va_sld hx hb hX hbl hbA hS g9 dL_law_240 ?_
  refine lv_aload_n hx hb dL_law_241 rfl (lv_at hl 0 rfl) ?_
  refine lv_iload hx hb dL_law_242 (lv_at hl 4 rfl) ?_
  refine lv_iconst (v := 3) hx hb dL_law_244 (by decide) ?_
  refine lv_iadd hx hb dL_law_245 ?_
  obtain ⟨g9, h⟩ := h
  refine va_sld hx hb hX hbl hbA hS g9 dL_law_246 ?_
  refine lv_aload_n hx hb dL_law_247 rfl (lv_at hl 0 rfl) ?_
  refine lv_iload hx hb dL_law_248 (lv_at hl 4 rfl) ?_
  refine lv_iconst (v := 4) hx hb dL_law_250 (by decide) ?_
  refine lv_iadd hx hb dL_law_251 ?_
  obtain ⟨g9, h⟩ := h
  refine va_sld hx hb hX hbl hbA hS g9 dL_law_252 ?_
  refine lv_aload_n hx hb dL_law_253 rfl (lv_at hl 0 rfl) ?_
  refine lv_iload hx hb dL_law_254 (lv_at hl 4 rfl) ?_
  refine lv_iconst (v := 5) hx hb dL_law_256 (by decide) ?_
  refine lv_iadd hx hb dL_law_257 ?_
  obtain ⟨g9, h⟩ := h
  refine va_sld hx hb hX hbl hbA hS g9 dL_law_258 ?_
  refine lv_aload_n hx hb dL_law_259 rfl (lv_at hl 0 rfl) ?_
  refine lv_iload hx hb dL_law_260 (lv_at hl 4 rfl) ?_
  refine lv_bipush (v := 6) hx hb dL_law_262 (by decide) ?_
  refine lv_iadd hx hb dL_law_264 ?_
  obtain ⟨g9, h⟩ := h
  refine va_sld hx hb hX hbl hbA hS g9 dL_law_265 ?_
  refine lv_aload_n hx hb dL_law_266 rfl (lv_at hl 0 rfl) ?_
  refine lv_iload hx hb dL_law_267 (lv_at hl 4 rfl) ?_
  refine lv_bipush (v := 7) hx hb dL_law_269 (by decide) ?_
  refine lv_iadd hx hb dL_law_271 ?_
  obtain ⟨g9, h⟩ := h
  refine va_sld hx hb hX hbl hbA hS g9 dL_law_272 ?_
  refine lv_aload_n hx hb dL_law_273 rfl (lv_at hl 3 rfl) ?_
  refine z_WH (As := [.ref (dA 0), .int (xs (i + 1).toNatClampNeg), .int (xs (i + 2).toNatClampNeg), .int (xs (i + 3).toNatClampNeg), .int (xs (i + 4).toNatClampNeg), .int (xs (i + 5).toNatClampNeg), .int (xs (i + 6).toNatClampNeg), .int (xs (i + 7).toNatClampNeg), .ref (oA 0)]) (rest := []) (wr := (wM cI mA mo ++ wS cB (fun _ : Nat => mA 10) x : va_W)) (wN := (fun u : Int32 × DS × (Nat → Int64) => wD cI dA bA aA tA u.2.1 ++ wM cI mA mo ++ wS cB (fun _ : Nat => mA 10) x ++ [((oA 0), .inl (cJ, 1, .inr (.inl u.2.2)))])) [0, 1, 2, 3, 4, 5, 6, 7, 8, 9, 10, 11, 12, 13, 14, 15, 16, 17, 18, 19, 20, 21, 34] [22, 23, 24, 25, 26, 27, 28, 29, 30, 31, 32, 33] [12, 13, 14, 15, 16, 17, 18, 19, 20, 21, 22, 23, 24, 25, 26, 27, 28, 29, 30, 31, 32, 33, 0, 1, 2, 3, 4, 5, 6, 7, 8, 9, 10, 11, 34] C hG hA hP hD hS (c_L_addDuty hfl hs0 D cI cB cJ dA bA aA tA oA d w (xs (i + 1).toNatClampNeg) (xs (i + 2).toNatClampNeg) (xs (i + 3).toNatClampNeg) (xs (i + 4).toNatClampNeg) (xs (i + 5).toNatClampNeg) (xs (i + 6).toNatClampNeg) (xs (i + 7).toNatClampNeg) h) q657 v_L_addDuty rfl rfl ⟨by decide, by decide, by decide⟩ (by decide) (fun _ => rfl) rfl ⟨(by first | (dsimp only [room_1]; omega) | omega | exact Nat.le_of_ble_eq_true rfl), (by first | (dsimp only [room_1]; omega) | omega | exact Nat.le_of_ble_eq_true rfl)⟩ ⟨(by first | (dsimp only [room_1]; omega) | omega | exact Nat.le_of_ble_eq_true rfl), (by first | (dsimp only [room_1]; omega) | omega | exact Nat.le_of_ble_eq_true rfl)⟩ hl.1 rfl (lv_room (by first | (dsimp only [room_1]; omega) | omega | exact Nat.le_of_ble_eq_true rfl)) dL_law_274 (fun u H locs h hP hD hS => ?_)
  obtain ⟨r274, d274, w274⟩ := u
  have hP : va_P D vwCl (wD cI dA bA aA tA d274 ++ wM cI mA mo ++ wS cB (fun _ : Nat => mA 10) x ++ [((oA 0), .inl (cJ, 1, .inr (.inl w274)))]) H := hP
  have hD : va_D (fun q : Nat => s.heap.size ≤ q) (wD cI dA bA aA tA d274 ++ wM cI mA mo ++ wS cB (fun _ : Nat => mA 10) x ++ [((oA 0), .inl (cJ, 1, .inr (.inl w274)))]) := hD
  refine lv_istore (lv' := [(5, .int r274), (0, .ref b), (1, .ref (dA 0)), (2, .ref (mA 0)), (3, .ref (oA 0)), (4, .int i)]) hx hb dL_law_277 hl (by decide) rfl (fun ls hl => ?_)
  refine lv_aload_n hx hb dL_law_279 rfl (lv_at hl 3 rfl) ?_
  refine lv_aload_n hx hb dL_law_280 rfl (lv_at hl 1 rfl) ?_
  refine lv_iload hx hb dL_law_281 (lv_at hl 5 rfl) ?_
  refine lv_iconst (v := 1) hx hb dL_law_283 (by decide) ?_
  refine lv_iadd hx hb dL_law_284 ?_
  obtain ⟨g9, h⟩ := h
  refine va_sld hx hb hX hbl hbA hS g9 dL_law_285 ?_
  refine lv_aload_n hx hb dL_law_286 rfl (lv_at hl 1 rfl) ?_
  refine lv_iload hx hb dL_law_287 (lv_at hl 5 rfl) ?_
  refine lv_iconst (v := 2) hx hb dL_law_289 (by decide) ?_
  refine lv_iadd hx hb dL_law_290 ?_
  obtain ⟨g9, h⟩ := h
  refine va_sld hx hb hX hbl hbA hS g9 dL_law_291 ?_
  refine lv_aload_n hx hb dL_law_292 rfl (lv_at hl 1 rfl) ?_
  refine lv_iload hx hb dL_law_293 (lv_at hl 5 rfl) ?_
  refine lv_iconst (v := 3) hx hb dL_law_295 (by decide) ?_
  refine lv_iadd hx hb dL_law_296 ?_
  obtain ⟨g9, h⟩ := h
  refine va_sld hx hb hX hbl hbA hS g9 dL_law_297 ?_
  refine lv_aload_n hx hb dL_law_298 rfl (lv_at hl 1 rfl) ?_
  refine lv_iload hx hb dL_law_299 (lv_at hl 5 rfl) ?_
  refine lv_iconst (v := 4) hx hb dL_law_301 (by decide) ?_
  refine lv_iadd hx hb dL_law_302 ?_
  obtain ⟨g9, h⟩ := h
  refine va_sld hx hb hX hbl hbA hS g9 dL_law_303 ?_
  refine lv_aload_n hx hb dL_law_304 rfl (lv_at hl 1 rfl) ?_
  refine lv_iload hx hb dL_law_305 (lv_at hl 5 rfl) ?_
  refine lv_iconst (v := 5) hx hb dL_law_307 (by decide) ?_
  refine lv_iadd hx hb dL_law_308 ?_
  obtain ⟨g9, h⟩ := h
  refine va_sld hx hb hX hbl hbA hS g9 dL_law_309 ?_
  refine lv_aload_n hx hb dL_law_310 rfl (lv_at hl 1 rfl) ?_
  refine lv_iload hx hb dL_law_311 (lv_at hl 5 rfl) ?_
  refine lv_bipush (v := 6) hx hb dL_law_313 (by decide) ?_
  refine lv_iadd hx hb dL_law_315 ?_
  obtain ⟨g9, h⟩ := h
  refine va_sld hx hb hX hbl hbA hS g9 dL_law_316 ?_
  refine lv_aload_n hx hb dL_law_317 rfl (lv_at hl 1 rfl) ?_
  refine lv_iload hx hb dL_law_318 (lv_at hl 5 rfl) ?_
  refine lv_bipush (v := 7) hx hb dL_law_320 (by decide) ?_
  refine lv_iadd hx hb dL_law_322 ?_
  obtain ⟨g9, h⟩ := h
  refine va_sld hx hb hX hbl hbA hS g9 dL_law_323 ?_
  refine z_WV (As := [.int (xs (i + 1).toNatClampNeg), .int (xs (i + 2).toNatClampNeg), .int (xs (i + 3).toNatClampNeg), .int (xs (i + 4).toNatClampNeg), .int (xs (i + 5).toNatClampNeg), .int (xs (i + 6).toNatClampNeg), .int (xs (i + 7).toNatClampNeg)]) (rest := []) (wr := (wD cI dA bA aA tA d274 ++ wS cB (fun _ : Nat => mA 10) x ++ [((oA 0), .inl (cJ, 1, .inr (.inl w274)))] : va_W)) (wN := (fun u : Int32 × MS => wD cI dA bA aA tA d274 ++ wM cI mA u.2 ++ wS cB (fun _ : Nat => mA 10) x ++ [((oA 0), .inl (cJ, 1, .inr (.inl w274)))])) [22, 23, 24, 25, 26, 27, 28, 29, 30, 31] [0, 1, 2, 3, 4, 5, 6, 7, 8, 9, 10, 11, 12, 13, 14, 15, 16, 17, 18, 19, 20, 21, 32, 33, 34] [0, 1, 2, 3, 4, 5, 6, 7, 8, 9, 10, 11, 12, 13, 14, 15, 16, 17, 18, 19, 20, 21, 25, 26, 27, 28, 29, 30, 31, 32, 33, 34, 22, 23, 24] C hG hA hP hD hS (c_X3_addDuty hfl hs0 D cI cB cJ mA mo (xs (i + 1).toNatClampNeg) (xs (i + 2).toNatClampNeg) (xs (i + 3).toNatClampNeg) (xs (i + 4).toNatClampNeg) (xs (i + 5).toNatClampNeg) (xs (i + 6).toNatClampNeg) (xs (i + 7).toNatClampNeg) h) q658 v_X3_addDuty rfl rfl ⟨by decide, by decide, by decide⟩ (by decide) (fun _ => rfl) rfl rfl rfl ⟨(by first | (dsimp only [room_1]; omega) | omega | exact Nat.le_of_ble_eq_true rfl), (by first | (dsimp only [room_1]; omega) | omega | exact Nat.le_of_ble_eq_true rfl)⟩ ⟨(by first | (dsimp only [room_1]; omega) | omega | exact Nat.le_of_ble_eq_true rfl), (by first | (dsimp only [room_1]; omega) | omega | exact Nat.le_of_ble_eq_true rfl)⟩ hl.1 rfl (lv_room (by first | (dsimp only [room_1]; omega) | omega | exact Nat.le_of_ble_eq_true rfl)) dL_law_324 (fun u H locs h hP hD hS => ?_)
  obtain ⟨r324, mo324⟩ := u
  have hP : va_P D vwCl (wD cI dA bA aA tA d274 ++ wM cI mA mo324 ++ wS cB (fun _ : Nat => mA 10) x ++ [((oA 0), .inl (cJ, 1, .inr (.inl w274)))]) H := hP
  have hD : va_D (fun q : Nat => s.heap.size ≤ q) (wD cI dA bA aA tA d274 ++ wM cI mA mo324 ++ wS cB (fun _ : Nat => mA 10) x ++ [((oA 0), .inl (cJ, 1, .inr (.inl w274)))]) := hD
  refine lv_istore (lv' := [(6, .int r324), (5, .int r274), (0, .ref b), (1, .ref (dA 0)), (2, .ref (mA 0)), (3, .ref (oA 0)), (4, .int i)]) hx hb dL_law_327 hl (by decide) rfl (fun ls hl => ?_)
  refine lv_aload_n hx hb dL_law_329 rfl (lv_at hl 4 rfl) ?_
  refine z_RV (As := []) (rest := []) [22, 23, 24, 25, 26, 27, 28, 29, 30, 31] C (hG.kept hS.1 hS.2.1).none hP (c_X3_thrown hfl hs0 D cI cB cJ mA mo324 h) q650 v_X3_thrown rfl rfl rfl rfl ⟨(by first | (dsimp only [room_1]; omega) | omega | exact Nat.le_of_ble_eq_true rfl), (by first | (dsimp only [room_1]; omega) | omega | exact Nat.le_of_ble_eq_true rfl)⟩ ⟨(by first | (dsimp only [room_1]; omega) | omega | exact Nat.le_of_ble_eq_true rfl), (by first | (dsimp only [room_1]; omega) | omega | exact Nat.le_of_ble_eq_true rfl)⟩ hl.1 rfl (lv_room (by first | (dsimp only [room_1]; omega) | omega | exact Nat.le_of_ble_eq_true rfl)) dL_law_330 (fun r330 h => ?_)
  refine lv_iload hx hb dL_law_333 (lv_at hl 1 rfl) ?_
  refine lv_icmp_eq (tgt := 340) hx hb dL_law_335 (by decide) (fun c335 => ?_) (fun c335 => ?_)
  · have h := h.1 c335
    refine lv_iload hx hb dL_law_340 (lv_at hl 1 rfl) ?_
    refine lv_if_ne (tgt := 357) hx hb dL_law_342 (by decide) (fun c342 => ?_) (fun c342 => ?_)
    · have h := h.2 c342
      refine lv_goto (tgt := 1648) hx hb dL_law_357 (by decide) ?_
      refine lv_iinc (v := (i + 8)) (lv' := [(4, .int (i + 8)), (6, .int r324), (5, .int r274), (0, .ref b), (1, .ref (dA 0)), (2, .ref (mA 0)), (3, .ref (oA 0))]) hx hb dL_law_1648 hl (k := 6) rfl (by first | rfl | decide) (by decide) rfl (fun ls hl => ?_)
      refine lv_goto (tgt := 23) hx hb dL_law_1651 (by decide) ?_
      refine W.widen (k := cells + 210) (n := slots + 6594) (by first | (dsimp only [room_1]; omega) | omega | exact Nat.le_of_ble_eq_true rfl) (by first | (dsimp only [room_1]; omega) | omega | exact Nat.le_of_ble_eq_true rfl) ?_
      exact hk _ _ _ _ _ _ _ hP hD hS _ (lv_sub hl [3, 4, 5, 6, 0] rfl) h
    · have h := h.1 c342
      refine lv_aload_n hx hb dL_law_345 rfl (lv_at hl 5 rfl) ?_
      refine lv_iconst (v := 0) hx hb dL_law_346 (by decide) ?_
      refine va_lald hx hb hK hP 34 2 rfl rfl (show ¬ ((0 : Int32) < 0 ∨ 1 ≤ (0 : Int32).toNatClampNeg) from by decide) dL_law_347 ?_
      refine lv_iload hx hb dL_law_348 (lv_at hl 0 rfl) ?_
      refine lv_i2l hx hb dL_law_350 rfl ?_
      refine W.lcmp hx hb dL_law_351 ?_
      refine lv_if_eq (tgt := 357) hx hb dL_law_352 (by decide) (fun c352 => ?_) (fun c352 => ?_)
      · have h := h.1 c352
        refine lv_goto (tgt := 1648) hx hb dL_law_357 (by decide) ?_
        refine lv_iinc (v := (i + 8)) (lv' := [(4, .int (i + 8)), (6, .int r324), (5, .int r274), (0, .ref b), (1, .ref (dA 0)), (2, .ref (mA 0)), (3, .ref (oA 0))]) hx hb dL_law_1648 hl (k := 6) rfl (by first | rfl | decide) (by decide) rfl (fun ls hl => ?_)
        refine lv_goto (tgt := 23) hx hb dL_law_1651 (by decide) ?_
        refine W.widen (k := cells + 210) (n := slots + 6594) (by first | (dsimp only [room_1]; omega) | omega | exact Nat.le_of_ble_eq_true rfl) (by first | (dsimp only [room_1]; omega) | omega | exact Nat.le_of_ble_eq_true rfl) ?_
        exact hk _ _ _ _ _ _ _ hP hD hS _ (lv_sub hl [3, 4, 5, 6, 0] rfl) h
      · have h := h.2 c352
        refine lv_iconst (v := 0) hx hb dL_law_355 (by decide) ?_
        exact (show False from h).elim
  · have h := h.2 c335
    refine lv_iconst (v := 0) hx hb dL_law_338 (by decide) ?_
    exact (show False from h).elim
def wpLc_360 (K : Int32 → DS → MS → SS → (Nat → Int64) → Prop) (L : Nat) (xs : Nat → Int32) (i : Int32) (d : DS) (mo : MS) (x : SS) (w : Nat → Int64) : Prop := vp_in (i + 1) L ∧ (wpL_pay (fun r368 d368 w368 => vp_in (i + 1) L ∧ (wpX3_pay (fun r380 mo380 => wpX3_thrown (fun r386 => (r386 = r368 → (r368 = 0 → ((lg_cmp (w368 (0 : Int32).toNatClampNeg) r380.toInt64) = 0 → K (i + 8) d368 mo380 x w368) ∧ (¬ (lg_cmp (w368 (0 : Int32).toNatClampNeg) r380.toInt64) = 0 → False)) ∧ (¬ r368 = 0 → K (i + 8) d368 mo380 x w368)) ∧ (¬ r386 = r368 → False)) mo380) mo (xs (i + 1).toNatClampNeg))) d w (xs (i + 1).toNatClampNeg))
set_option maxHeartbeats 4000000 in
set_option maxRecDepth 100000 in
theorem lc_360 {p : Program} {l : Launch} {e : Env} {s : State} {m : MethodId} {below : List Frame} {meth : Method} {c : Code} {b L : Nat} {xs : Nat → Int32} {D : va_G} {cI cB cJ : ClassId} {dA bA aA tA mA oA : Nat → Nat} {Q : State → Prop} {cells slots : Nat} {K : Int32 → DS → MS → SS → (Nat → Int64) → Prop} (hfl : l.stackTraces = false) (hs0 : zS s) (C : zC D (zty cI cB cJ) p s m #[Value.ref b] meth c cL_law RL ret 9) (hA : ∀ q : Nat, s.heap.size ≤ q → (fun q : Nat => s.heap.size ≤ q) q) (hG : zG s (fun q : Nat => s.heap.size ≤ q) s s.heap) (hX : va_X b L xs s s.heap) (hbl : b < s.heap.size) (hcs : cells + 210 ≤ 635979 ∧ slots + 6594 ≤ 7188166)
    (hk : ∀ (i : Int32) (d : DS) (mo : MS) (x : SS) (w : Nat → Int64) (H : Heap) (locs : List Loc), va_P D vwCl (wD cI dA bA aA tA d ++ wM cI mA mo ++ wS cB (fun _ : Nat => mA 10) x ++ [((oA 0), .inl (cJ, 1, .inr (.inl w)))]) H → va_D (fun q : Nat => s.heap.size ≤ q) (wD cI dA bA aA tA d ++ wM cI mA mo ++ wS cB (fun _ : Nat => mA 10) x ++ [((oA 0), .inl (cJ, 1, .inr (.inl w)))]) → va_S (fun q : Nat => s.heap.size ≤ q) s.heap H locs → ∀ ls : Array Slot, lv_has ls 9 [(0, .ref b), (1, .ref (dA 0)), (2, .ref (mA 0)), (3, .ref (oA 0)), (4, .int i)] → K i d mo x w → W p l e room_1 s m #[Value.ref b] below meth c H locs (cells + 210) (slots + 6594) Q (F0 m 23 ls []))
    (i : Int32) (d : DS) (mo : MS) (x : SS) (w : Nat → Int64) (H : Heap) (locs : List Loc) (hP : va_P D vwCl (wD cI dA bA aA tA d ++ wM cI mA mo ++ wS cB (fun _ : Nat => mA 10) x ++ [((oA 0), .inl (cJ, 1, .inr (.inl w)))]) H) (hD : va_D (fun q : Nat => s.heap.size ≤ q) (wD cI dA bA aA tA d ++ wM cI mA mo ++ wS cB (fun _ : Nat => mA 10) x ++ [((oA 0), .inl (cJ, 1, .inr (.inl w)))])) (hS : va_S (fun q : Nat => s.heap.size ≤ q) s.heap H locs) (ls : Array Slot) (hl : lv_has ls 9 [(0, .ref b), (1, .ref (dA 0)), (2, .ref (mA 0)), (3, .ref (oA 0)), (4, .int i)]) (h : wpLc_360 K L xs i d mo x w) : W p l e room_1 s m #[Value.ref b] below meth c H locs cells slots Q (F0 m 360 ls []) := by
  have hx := C.1
  have hb := C.2.1
  have hts := C.2.2.1
  have hown := C.2.2.2.1
  have hml := C.2.2.2.2.2.1
  have hK := C.2.2.2.2.2.2.2
  have hbA : ¬ (fun q : Nat => s.heap.size ≤ q) b := Nat.not_le.mpr hbl
  unfold wpLc_360 at h
  refine lv_aload_n hx hb dL_law_360 rfl (lv_at hl 1 rfl) ?_
  refine lv_aload_n hx hb dL_law_361 rfl (lv_at hl 0 rfl) ?_
  refine lv_iload hx hb dL_law_362 (lv_at hl 4 rfl) ?_
  refine lv_iconst (v := 1) hx hb dL_law_364 (by decide) ?_
  refine lv_iadd hx hb dL_law_365 ?_
  obtain ⟨g9, h⟩ := h
  refine va_sld hx hb hX hbl hbA hS g9 dL_law_366 ?_
  refine lv_aload_n hx hb dL_law_367 rfl (lv_at hl 3 rfl) ?_
  refine z_WH (As := [.ref (dA 0), .int (xs (i + 1).toNatClampNeg), .ref (oA 0)]) (rest := []) (wr := (wM cI mA mo ++ wS cB (fun _ : Nat => mA 10) x : va_W)) (wN := (fun u : Int32 × DS × (Nat → Int64) => wD cI dA bA aA tA u.2.1 ++ wM cI mA mo ++ wS cB (fun _ : Nat => mA 10) x ++ [((oA 0), .inl (cJ, 1, .inr (.inl u.2.2)))])) [0, 1, 2, 3, 4, 5, 6, 7, 8, 9, 10, 11, 12, 13, 14, 15, 16, 17, 18, 19, 20, 21, 34] [22, 23, 24, 25, 26, 27, 28, 29, 30, 31, 32, 33] [12, 13, 14, 15, 16, 17, 18, 19, 20, 21, 22, 23, 24, 25, 26, 27, 28, 29, 30, 31, 32, 33, 0, 1, 2, 3, 4, 5, 6, 7, 8, 9, 10, 11, 34] C hG hA hP hD hS (c_L_pay hfl hs0 D cI cB cJ dA bA aA tA oA d w (xs (i + 1).toNatClampNeg) h) q662 v_L_pay rfl rfl ⟨by decide, by decide, by decide⟩ (by decide) (fun _ => rfl) rfl ⟨(by first | (dsimp only [room_1]; omega) | omega | exact Nat.le_of_ble_eq_true rfl), (by first | (dsimp only [room_1]; omega) | omega | exact Nat.le_of_ble_eq_true rfl)⟩ ⟨(by first | (dsimp only [room_1]; omega) | omega | exact Nat.le_of_ble_eq_true rfl), (by first | (dsimp only [room_1]; omega) | omega | exact Nat.le_of_ble_eq_true rfl)⟩ hl.1 rfl (lv_room (by first | (dsimp only [room_1]; omega) | omega | exact Nat.le_of_ble_eq_true rfl)) dL_law_368 (fun u H locs h hP hD hS => ?_)
  obtain ⟨r368, d368, w368⟩ := u
  have hP : va_P D vwCl (wD cI dA bA aA tA d368 ++ wM cI mA mo ++ wS cB (fun _ : Nat => mA 10) x ++ [((oA 0), .inl (cJ, 1, .inr (.inl w368)))]) H := hP
  have hD : va_D (fun q : Nat => s.heap.size ≤ q) (wD cI dA bA aA tA d368 ++ wM cI mA mo ++ wS cB (fun _ : Nat => mA 10) x ++ [((oA 0), .inl (cJ, 1, .inr (.inl w368)))]) := hD
  refine lv_istore (lv' := [(5, .int r368), (0, .ref b), (1, .ref (dA 0)), (2, .ref (mA 0)), (3, .ref (oA 0)), (4, .int i)]) hx hb dL_law_371 hl (by decide) rfl (fun ls hl => ?_)
  refine lv_aload_n hx hb dL_law_373 rfl (lv_at hl 3 rfl) ?_
  refine lv_aload_n hx hb dL_law_374 rfl (lv_at hl 1 rfl) ?_
  refine lv_iload hx hb dL_law_375 (lv_at hl 5 rfl) ?_
  refine lv_iconst (v := 1) hx hb dL_law_377 (by decide) ?_
  refine lv_iadd hx hb dL_law_378 ?_
  obtain ⟨g9, h⟩ := h
  refine va_sld hx hb hX hbl hbA hS g9 dL_law_379 ?_
  refine z_WV (As := [.int (xs (i + 1).toNatClampNeg)]) (rest := []) (wr := (wD cI dA bA aA tA d368 ++ wS cB (fun _ : Nat => mA 10) x ++ [((oA 0), .inl (cJ, 1, .inr (.inl w368)))] : va_W)) (wN := (fun u : Int32 × MS => wD cI dA bA aA tA d368 ++ wM cI mA u.2 ++ wS cB (fun _ : Nat => mA 10) x ++ [((oA 0), .inl (cJ, 1, .inr (.inl w368)))])) [22, 23, 24, 25, 26, 27, 28, 29, 30, 31] [0, 1, 2, 3, 4, 5, 6, 7, 8, 9, 10, 11, 12, 13, 14, 15, 16, 17, 18, 19, 20, 21, 32, 33, 34] [0, 1, 2, 3, 4, 5, 6, 7, 8, 9, 10, 11, 12, 13, 14, 15, 16, 17, 18, 19, 20, 21, 25, 26, 27, 28, 29, 30, 31, 32, 33, 34, 22, 23, 24] C hG hA hP hD hS (c_X3_pay hfl hs0 D cI cB cJ mA mo (xs (i + 1).toNatClampNeg) h) q663 v_X3_pay rfl rfl ⟨by decide, by decide, by decide⟩ (by decide) (fun _ => rfl) rfl rfl rfl ⟨(by first | (dsimp only [room_1]; omega) | omega | exact Nat.le_of_ble_eq_true rfl), (by first | (dsimp only [room_1]; omega) | omega | exact Nat.le_of_ble_eq_true rfl)⟩ ⟨(by first | (dsimp only [room_1]; omega) | omega | exact Nat.le_of_ble_eq_true rfl), (by first | (dsimp only [room_1]; omega) | omega | exact Nat.le_of_ble_eq_true rfl)⟩ hl.1 rfl (lv_room (by first | (dsimp only [room_1]; omega) | omega | exact Nat.le_of_ble_eq_true rfl)) dL_law_380 (fun u H locs h hP hD hS => ?_)
  obtain ⟨r380, mo380⟩ := u
  have hP : va_P D vwCl (wD cI dA bA aA tA d368 ++ wM cI mA mo380 ++ wS cB (fun _ : Nat => mA 10) x ++ [((oA 0), .inl (cJ, 1, .inr (.inl w368)))]) H := hP
  have hD : va_D (fun q : Nat => s.heap.size ≤ q) (wD cI dA bA aA tA d368 ++ wM cI mA mo380 ++ wS cB (fun _ : Nat => mA 10) x ++ [((oA 0), .inl (cJ, 1, .inr (.inl w368)))]) := hD
  refine lv_istore (lv' := [(6, .int r380), (5, .int r368), (0, .ref b), (1, .ref (dA 0)), (2, .ref (mA 0)), (3, .ref (oA 0)), (4, .int i)]) hx hb dL_law_383 hl (by decide) rfl (fun ls hl => ?_)
  refine lv_aload_n hx hb dL_law_385 rfl (lv_at hl 4 rfl) ?_
  refine z_RV (As := []) (rest := []) [22, 23, 24, 25, 26, 27, 28, 29, 30, 31] C (hG.kept hS.1 hS.2.1).none hP (c_X3_thrown hfl hs0 D cI cB cJ mA mo380 h) q650 v_X3_thrown rfl rfl rfl rfl ⟨(by first | (dsimp only [room_1]; omega) | omega | exact Nat.le_of_ble_eq_true rfl), (by first | (dsimp only [room_1]; omega) | omega | exact Nat.le_of_ble_eq_true rfl)⟩ ⟨(by first | (dsimp only [room_1]; omega) | omega | exact Nat.le_of_ble_eq_true rfl), (by first | (dsimp only [room_1]; omega) | omega | exact Nat.le_of_ble_eq_true rfl)⟩ hl.1 rfl (lv_room (by first | (dsimp only [room_1]; omega) | omega | exact Nat.le_of_ble_eq_true rfl)) dL_law_386 (fun r386 h => ?_)
  refine lv_iload hx hb dL_law_389 (lv_at hl 1 rfl) ?_
  refine lv_icmp_eq (tgt := 396) hx hb dL_law_391 (by decide) (fun c391 => ?_) (fun c391 => ?_)
  · have h := h.1 c391
    refine lv_iload hx hb dL_law_396 (lv_at hl 1 rfl) ?_
    refine lv_if_ne (tgt := 413) hx hb dL_law_398 (by decide) (fun c398 => ?_) (fun c398 => ?_)
    · have h := h.2 c398
      refine lv_goto (tgt := 1648) hx hb dL_law_413 (by decide) ?_
      refine lv_iinc (v := (i + 8)) (lv' := [(4, .int (i + 8)), (6, .int r380), (5, .int r368), (0, .ref b), (1, .ref (dA 0)), (2, .ref (mA 0)), (3, .ref (oA 0))]) hx hb dL_law_1648 hl (k := 6) rfl (by first | rfl | decide) (by decide) rfl (fun ls hl => ?_)
      refine lv_goto (tgt := 23) hx hb dL_law_1651 (by decide) ?_
      refine W.widen (k := cells + 210) (n := slots + 6594) (by first | (dsimp only [room_1]; omega) | omega | exact Nat.le_of_ble_eq_true rfl) (by first | (dsimp only [room_1]; omega) | omega | exact Nat.le_of_ble_eq_true rfl) ?_
      exact hk _ _ _ _ _ _ _ hP hD hS _ (lv_sub hl [3, 4, 5, 6, 0] rfl) h
    · have h := h.1 c398
      refine lv_aload_n hx hb dL_law_401 rfl (lv_at hl 5 rfl) ?_
      refine lv_iconst (v := 0) hx hb dL_law_402 (by decide) ?_
      refine va_lald hx hb hK hP 34 2 rfl rfl (show ¬ ((0 : Int32) < 0 ∨ 1 ≤ (0 : Int32).toNatClampNeg) from by decide) dL_law_403 ?_
      refine lv_iload hx hb dL_law_404 (lv_at hl 0 rfl) ?_
      refine lv_i2l hx hb dL_law_406 rfl ?_
      refine W.lcmp hx hb dL_law_407 ?_
      refine lv_if_eq (tgt := 413) hx hb dL_law_408 (by decide) (fun c408 => ?_) (fun c408 => ?_)
      · have h := h.1 c408
        refine lv_goto (tgt := 1648) hx hb dL_law_413 (by decide) ?_
        refine lv_iinc (v := (i + 8)) (lv' := [(4, .int (i + 8)), (6, .int r380), (5, .int r368), (0, .ref b), (1, .ref (dA 0)), (2, .ref (mA 0)), (3, .ref (oA 0))]) hx hb dL_law_1648 hl (k := 6) rfl (by first | rfl | decide) (by decide) rfl (fun ls hl => ?_)
        refine lv_goto (tgt := 23) hx hb dL_law_1651 (by decide) ?_
        refine W.widen (k := cells + 210) (n := slots + 6594) (by first | (dsimp only [room_1]; omega) | omega | exact Nat.le_of_ble_eq_true rfl) (by first | (dsimp only [room_1]; omega) | omega | exact Nat.le_of_ble_eq_true rfl) ?_
        exact hk _ _ _ _ _ _ _ hP hD hS _ (lv_sub hl [3, 4, 5, 6, 0] rfl) h
      · have h := h.2 c408
        refine lv_iconst (v := 0) hx hb dL_law_411 (by decide) ?_
        exact (show False from h).elim
  · have h := h.2 c391
    refine lv_iconst (v := 0) hx hb dL_law_394 (by decide) ?_
    exact (show False from h).elim
def wpLc_416 (K : Int32 → DS → MS → SS → (Nat → Int64) → Prop) (L : Nat) (xs : Nat → Int32) (i : Int32) (d : DS) (mo : MS) (x : SS) (w : Nat → Int64) : Prop := vp_in (i + 1) L ∧ (wpL_release (fun r424 d424 w424 => vp_in (i + 1) L ∧ (wpX3_release (fun r436 mo436 => wpX3_thrown (fun r442 => (r442 = r424 → (r424 = 0 → ((lg_cmp (w424 (0 : Int32).toNatClampNeg) r436.toInt64) = 0 → K (i + 8) d424 mo436 x w424) ∧ (¬ (lg_cmp (w424 (0 : Int32).toNatClampNeg) r436.toInt64) = 0 → False)) ∧ (¬ r424 = 0 → K (i + 8) d424 mo436 x w424)) ∧ (¬ r442 = r424 → False)) mo436) mo (xs (i + 1).toNatClampNeg))) d w (xs (i + 1).toNatClampNeg))
set_option maxHeartbeats 4000000 in
set_option maxRecDepth 100000 in
theorem lc_416 {p : Program} {l : Launch} {e : Env} {s : State} {m : MethodId} {below : List Frame} {meth : Method} {c : Code} {b L : Nat} {xs : Nat → Int32} {D : va_G} {cI cB cJ : ClassId} {dA bA aA tA mA oA : Nat → Nat} {Q : State → Prop} {cells slots : Nat} {K : Int32 → DS → MS → SS → (Nat → Int64) → Prop} (hfl : l.stackTraces = false) (hs0 : zS s) (C : zC D (zty cI cB cJ) p s m #[Value.ref b] meth c cL_law RL ret 9) (hA : ∀ q : Nat, s.heap.size ≤ q → (fun q : Nat => s.heap.size ≤ q) q) (hG : zG s (fun q : Nat => s.heap.size ≤ q) s s.heap) (hX : va_X b L xs s s.heap) (hbl : b < s.heap.size) (hcs : cells + 210 ≤ 635979 ∧ slots + 6594 ≤ 7188166)
    (hk : ∀ (i : Int32) (d : DS) (mo : MS) (x : SS) (w : Nat → Int64) (H : Heap) (locs : List Loc), va_P D vwCl (wD cI dA bA aA tA d ++ wM cI mA mo ++ wS cB (fun _ : Nat => mA 10) x ++ [((oA 0), .inl (cJ, 1, .inr (.inl w)))]) H → va_D (fun q : Nat => s.heap.size ≤ q) (wD cI dA bA aA tA d ++ wM cI mA mo ++ wS cB (fun _ : Nat => mA 10) x ++ [((oA 0), .inl (cJ, 1, .inr (.inl w)))]) → va_S (fun q : Nat => s.heap.size ≤ q) s.heap H locs → ∀ ls : Array Slot, lv_has ls 9 [(0, .ref b), (1, .ref (dA 0)), (2, .ref (mA 0)), (3, .ref (oA 0)), (4, .int i)] → K i d mo x w → W p l e room_1 s m #[Value.ref b] below meth c H locs (cells + 210) (slots + 6594) Q (F0 m 23 ls []))
    (i : Int32) (d : DS) (mo : MS) (x : SS) (w : Nat → Int64) (H : Heap) (locs : List Loc) (hP : va_P D vwCl (wD cI dA bA aA tA d ++ wM cI mA mo ++ wS cB (fun _ : Nat => mA 10) x ++ [((oA 0), .inl (cJ, 1, .inr (.inl w)))]) H) (hD : va_D (fun q : Nat => s.heap.size ≤ q) (wD cI dA bA aA tA d ++ wM cI mA mo ++ wS cB (fun _ : Nat => mA 10) x ++ [((oA 0), .inl (cJ, 1, .inr (.inl w)))])) (hS : va_S (fun q : Nat => s.heap.size ≤ q) s.heap H locs) (ls : Array Slot) (hl : lv_has ls 9 [(0, .ref b), (1, .ref (dA 0)), (2, .ref (mA 0)), (3, .ref (oA 0)), (4, .int i)]) (h : wpLc_416 K L xs i d mo x w) : W p l e room_1 s m #[Value.ref b] below meth c H locs cells slots Q (F0 m 416 ls []) := by
  have hx := C.1
  have hb := C.2.1
  have hts := C.2.2.1
  have hown := C.2.2.2.1
  have hml := C.2.2.2.2.2.1
  have hK := C.2.2.2.2.2.2.2
  have hbA : ¬ (fun q : Nat => s.heap.size ≤ q) b := Nat.not_le.mpr hbl
  unfold wpLc_416 at h
  refine lv_aload_n hx hb dL_law_416 rfl (lv_at hl 1 rfl) ?_
  refine lv_aload_n hx hb dL_law_417 rfl (lv_at hl 0 rfl) ?_
  refine lv_iload hx hb dL_law_418 (lv_at hl 4 rfl) ?_
  refine lv_iconst (v := 1) hx hb dL_law_420 (by decide) ?_
  refine lv_iadd hx hb dL_law_421 ?_
  obtain ⟨g9, h⟩ := h
  refine va_sld hx hb hX hbl hbA hS g9 dL_law_422 ?_
  refine lv_aload_n hx hb dL_law_423 rfl (lv_at hl 3 rfl) ?_
  refine z_WH (As := [.ref (dA 0), .int (xs (i + 1).toNatClampNeg), .ref (oA 0)]) (rest := []) (wr := (wM cI mA mo ++ wS cB (fun _ : Nat => mA 10) x : va_W)) (wN := (fun u : Int32 × DS × (Nat → Int64) => wD cI dA bA aA tA u.2.1 ++ wM cI mA mo ++ wS cB (fun _ : Nat => mA 10) x ++ [((oA 0), .inl (cJ, 1, .inr (.inl u.2.2)))])) [0, 1, 2, 3, 4, 5, 6, 7, 8, 9, 10, 11, 12, 13, 14, 15, 16, 17, 18, 19, 20, 21, 34] [22, 23, 24, 25, 26, 27, 28, 29, 30, 31, 32, 33] [12, 13, 14, 15, 16, 17, 18, 19, 20, 21, 22, 23, 24, 25, 26, 27, 28, 29, 30, 31, 32, 33, 0, 1, 2, 3, 4, 5, 6, 7, 8, 9, 10, 11, 34] C hG hA hP hD hS (c_L_release hfl hs0 D cI cB cJ dA bA aA tA oA d w (xs (i + 1).toNatClampNeg) h) q667 v_L_release rfl rfl ⟨by decide, by decide, by decide⟩ (by decide) (fun _ => rfl) rfl ⟨(by first | (dsimp only [room_1]; omega) | omega | exact Nat.le_of_ble_eq_true rfl), (by first | (dsimp only [room_1]; omega) | omega | exact Nat.le_of_ble_eq_true rfl)⟩ ⟨(by first | (dsimp only [room_1]; omega) | omega | exact Nat.le_of_ble_eq_true rfl), (by first | (dsimp only [room_1]; omega) | omega | exact Nat.le_of_ble_eq_true rfl)⟩ hl.1 rfl (lv_room (by first | (dsimp only [room_1]; omega) | omega | exact Nat.le_of_ble_eq_true rfl)) dL_law_424 (fun u H locs h hP hD hS => ?_)
  obtain ⟨r424, d424, w424⟩ := u
  have hP : va_P D vwCl (wD cI dA bA aA tA d424 ++ wM cI mA mo ++ wS cB (fun _ : Nat => mA 10) x ++ [((oA 0), .inl (cJ, 1, .inr (.inl w424)))]) H := hP
  have hD : va_D (fun q : Nat => s.heap.size ≤ q) (wD cI dA bA aA tA d424 ++ wM cI mA mo ++ wS cB (fun _ : Nat => mA 10) x ++ [((oA 0), .inl (cJ, 1, .inr (.inl w424)))]) := hD
  refine lv_istore (lv' := [(5, .int r424), (0, .ref b), (1, .ref (dA 0)), (2, .ref (mA 0)), (3, .ref (oA 0)), (4, .int i)]) hx hb dL_law_427 hl (by decide) rfl (fun ls hl => ?_)
  refine lv_aload_n hx hb dL_law_429 rfl (lv_at hl 3 rfl) ?_
  refine lv_aload_n hx hb dL_law_430 rfl (lv_at hl 1 rfl) ?_
  refine lv_iload hx hb dL_law_431 (lv_at hl 5 rfl) ?_
  refine lv_iconst (v := 1) hx hb dL_law_433 (by decide) ?_
  refine lv_iadd hx hb dL_law_434 ?_
  obtain ⟨g9, h⟩ := h
  refine va_sld hx hb hX hbl hbA hS g9 dL_law_435 ?_
  refine z_WV (As := [.int (xs (i + 1).toNatClampNeg)]) (rest := []) (wr := (wD cI dA bA aA tA d424 ++ wS cB (fun _ : Nat => mA 10) x ++ [((oA 0), .inl (cJ, 1, .inr (.inl w424)))] : va_W)) (wN := (fun u : Int32 × MS => wD cI dA bA aA tA d424 ++ wM cI mA u.2 ++ wS cB (fun _ : Nat => mA 10) x ++ [((oA 0), .inl (cJ, 1, .inr (.inl w424)))])) [22, 23, 24, 25, 26, 27, 28, 29, 30, 31] [0, 1, 2, 3, 4, 5, 6, 7, 8, 9, 10, 11, 12, 13, 14, 15, 16, 17, 18, 19, 20, 21, 32, 33, 34] [0, 1, 2, 3, 4, 5, 6, 7, 8, 9, 10, 11, 12, 13, 14, 15, 16, 17, 18, 19, 20, 21, 25, 26, 27, 28, 29, 30, 31, 32, 33, 34, 22, 23, 24] C hG hA hP hD hS (c_X3_release hfl hs0 D cI cB cJ mA mo (xs (i + 1).toNatClampNeg) h) q668 v_X3_release rfl rfl ⟨by decide, by decide, by decide⟩ (by decide) (fun _ => rfl) rfl rfl rfl ⟨(by first | (dsimp only [room_1]; omega) | omega | exact Nat.le_of_ble_eq_true rfl), (by first | (dsimp only [room_1]; omega) | omega | exact Nat.le_of_ble_eq_true rfl)⟩ ⟨(by first | (dsimp only [room_1]; omega) | omega | exact Nat.le_of_ble_eq_true rfl), (by first | (dsimp only [room_1]; omega) | omega | exact Nat.le_of_ble_eq_true rfl)⟩ hl.1 rfl (lv_room (by first | (dsimp only [room_1]; omega) | omega | exact Nat.le_of_ble_eq_true rfl)) dL_law_436 (fun u H locs h hP hD hS => ?_)
  obtain ⟨r436, mo436⟩ := u
  have hP : va_P D vwCl (wD cI dA bA aA tA d424 ++ wM cI mA mo436 ++ wS cB (fun _ : Nat => mA 10) x ++ [((oA 0), .inl (cJ, 1, .inr (.inl w424)))]) H := hP
  have hD : va_D (fun q : Nat => s.heap.size ≤ q) (wD cI dA bA aA tA d424 ++ wM cI mA mo436 ++ wS cB (fun _ : Nat => mA 10) x ++ [((oA 0), .inl (cJ, 1, .inr (.inl w424)))]) := hD
  refine lv_istore (lv' := [(6, .int r436), (5, .int r424), (0, .ref b), (1, .ref (dA 0)), (2, .ref (mA 0)), (3, .ref (oA 0)), (4, .int i)]) hx hb dL_law_439 hl (by decide) rfl (fun ls hl => ?_)
  refine lv_aload_n hx hb dL_law_441 rfl (lv_at hl 4 rfl) ?_
  refine z_RV (As := []) (rest := []) [22, 23, 24, 25, 26, 27, 28, 29, 30, 31] C (hG.kept hS.1 hS.2.1).none hP (c_X3_thrown hfl hs0 D cI cB cJ mA mo436 h) q650 v_X3_thrown rfl rfl rfl rfl ⟨(by first | (dsimp only [room_1]; omega) | omega | exact Nat.le_of_ble_eq_true rfl), (by first | (dsimp only [room_1]; omega) | omega | exact Nat.le_of_ble_eq_true rfl)⟩ ⟨(by first | (dsimp only [room_1]; omega) | omega | exact Nat.le_of_ble_eq_true rfl), (by first | (dsimp only [room_1]; omega) | omega | exact Nat.le_of_ble_eq_true rfl)⟩ hl.1 rfl (lv_room (by first | (dsimp only [room_1]; omega) | omega | exact Nat.le_of_ble_eq_true rfl)) dL_law_442 (fun r442 h => ?_)
  refine lv_iload hx hb dL_law_445 (lv_at hl 1 rfl) ?_
  refine lv_icmp_eq (tgt := 452) hx hb dL_law_447 (by decide) (fun c447 => ?_) (fun c447 => ?_)
  · have h := h.1 c447
    refine lv_iload hx hb dL_law_452 (lv_at hl 1 rfl) ?_
    refine lv_if_ne (tgt := 469) hx hb dL_law_454 (by decide) (fun c454 => ?_) (fun c454 => ?_)
    · have h := h.2 c454
      refine lv_goto (tgt := 1648) hx hb dL_law_469 (by decide) ?_
      refine lv_iinc (v := (i + 8)) (lv' := [(4, .int (i + 8)), (6, .int r436), (5, .int r424), (0, .ref b), (1, .ref (dA 0)), (2, .ref (mA 0)), (3, .ref (oA 0))]) hx hb dL_law_1648 hl (k := 6) rfl (by first | rfl | decide) (by decide) rfl (fun ls hl => ?_)
      refine lv_goto (tgt := 23) hx hb dL_law_1651 (by decide) ?_
      refine W.widen (k := cells + 210) (n := slots + 6594) (by first | (dsimp only [room_1]; omega) | omega | exact Nat.le_of_ble_eq_true rfl) (by first | (dsimp only [room_1]; omega) | omega | exact Nat.le_of_ble_eq_true rfl) ?_
      exact hk _ _ _ _ _ _ _ hP hD hS _ (lv_sub hl [3, 4, 5, 6, 0] rfl) h
    · have h := h.1 c454
      refine lv_aload_n hx hb dL_law_457 rfl (lv_at hl 5 rfl) ?_
      refine lv_iconst (v := 0) hx hb dL_law_458 (by decide) ?_
      refine va_lald hx hb hK hP 34 2 rfl rfl (show ¬ ((0 : Int32) < 0 ∨ 1 ≤ (0 : Int32).toNatClampNeg) from by decide) dL_law_459 ?_
      refine lv_iload hx hb dL_law_460 (lv_at hl 0 rfl) ?_
      refine lv_i2l hx hb dL_law_462 rfl ?_
      refine W.lcmp hx hb dL_law_463 ?_
      refine lv_if_eq (tgt := 469) hx hb dL_law_464 (by decide) (fun c464 => ?_) (fun c464 => ?_)
      · have h := h.1 c464
        refine lv_goto (tgt := 1648) hx hb dL_law_469 (by decide) ?_
        refine lv_iinc (v := (i + 8)) (lv' := [(4, .int (i + 8)), (6, .int r436), (5, .int r424), (0, .ref b), (1, .ref (dA 0)), (2, .ref (mA 0)), (3, .ref (oA 0))]) hx hb dL_law_1648 hl (k := 6) rfl (by first | rfl | decide) (by decide) rfl (fun ls hl => ?_)
        refine lv_goto (tgt := 23) hx hb dL_law_1651 (by decide) ?_
        refine W.widen (k := cells + 210) (n := slots + 6594) (by first | (dsimp only [room_1]; omega) | omega | exact Nat.le_of_ble_eq_true rfl) (by first | (dsimp only [room_1]; omega) | omega | exact Nat.le_of_ble_eq_true rfl) ?_
        exact hk _ _ _ _ _ _ _ hP hD hS _ (lv_sub hl [3, 4, 5, 6, 0] rfl) h
      · have h := h.2 c464
        refine lv_iconst (v := 0) hx hb dL_law_467 (by decide) ?_
        exact (show False from h).elim
  · have h := h.2 c447
    refine lv_iconst (v := 0) hx hb dL_law_450 (by decide) ?_
    exact (show False from h).elim
def wpLc_472 (K : Int32 → DS → MS → SS → (Nat → Int64) → Prop) (L : Nat) (xs : Nat → Int32) (i : Int32) (d : DS) (mo : MS) (x : SS) (w : Nat → Int64) : Prop := vp_in (i + 1) L ∧ (vp_in (i + 2) L ∧ (wpL_stop (fun r486 d486 w486 => vp_in (i + 1) L ∧ (vp_in (i + 2) L ∧ (wpX3_stop (fun r504 mo504 => wpX3_thrown (fun r510 => (r510 = r486 → (r486 = 0 → ((lg_cmp (w486 (0 : Int32).toNatClampNeg) r504.toInt64) = 0 → K (i + 8) d486 mo504 x w486) ∧ (¬ (lg_cmp (w486 (0 : Int32).toNatClampNeg) r504.toInt64) = 0 → False)) ∧ (¬ r486 = 0 → K (i + 8) d486 mo504 x w486)) ∧ (¬ r510 = r486 → False)) mo504) mo (xs (i + 1).toNatClampNeg) (xs (i + 2).toNatClampNeg)))) d w (xs (i + 1).toNatClampNeg) (xs (i + 2).toNatClampNeg)))
set_option maxHeartbeats 4000000 in
set_option maxRecDepth 100000 in
theorem lc_472 {p : Program} {l : Launch} {e : Env} {s : State} {m : MethodId} {below : List Frame} {meth : Method} {c : Code} {b L : Nat} {xs : Nat → Int32} {D : va_G} {cI cB cJ : ClassId} {dA bA aA tA mA oA : Nat → Nat} {Q : State → Prop} {cells slots : Nat} {K : Int32 → DS → MS → SS → (Nat → Int64) → Prop} (hfl : l.stackTraces = false) (hs0 : zS s) (C : zC D (zty cI cB cJ) p s m #[Value.ref b] meth c cL_law RL ret 9) (hA : ∀ q : Nat, s.heap.size ≤ q → (fun q : Nat => s.heap.size ≤ q) q) (hG : zG s (fun q : Nat => s.heap.size ≤ q) s s.heap) (hX : va_X b L xs s s.heap) (hbl : b < s.heap.size) (hcs : cells + 210 ≤ 635979 ∧ slots + 6594 ≤ 7188166)
    (hk : ∀ (i : Int32) (d : DS) (mo : MS) (x : SS) (w : Nat → Int64) (H : Heap) (locs : List Loc), va_P D vwCl (wD cI dA bA aA tA d ++ wM cI mA mo ++ wS cB (fun _ : Nat => mA 10) x ++ [((oA 0), .inl (cJ, 1, .inr (.inl w)))]) H → va_D (fun q : Nat => s.heap.size ≤ q) (wD cI dA bA aA tA d ++ wM cI mA mo ++ wS cB (fun _ : Nat => mA 10) x ++ [((oA 0), .inl (cJ, 1, .inr (.inl w)))]) → va_S (fun q : Nat => s.heap.size ≤ q) s.heap H locs → ∀ ls : Array Slot, lv_has ls 9 [(0, .ref b), (1, .ref (dA 0)), (2, .ref (mA 0)), (3, .ref (oA 0)), (4, .int i)] → K i d mo x w → W p l e room_1 s m #[Value.ref b] below meth c H locs (cells + 210) (slots + 6594) Q (F0 m 23 ls []))
    (i : Int32) (d : DS) (mo : MS) (x : SS) (w : Nat → Int64) (H : Heap) (locs : List Loc) (hP : va_P D vwCl (wD cI dA bA aA tA d ++ wM cI mA mo ++ wS cB (fun _ : Nat => mA 10) x ++ [((oA 0), .inl (cJ, 1, .inr (.inl w)))]) H) (hD : va_D (fun q : Nat => s.heap.size ≤ q) (wD cI dA bA aA tA d ++ wM cI mA mo ++ wS cB (fun _ : Nat => mA 10) x ++ [((oA 0), .inl (cJ, 1, .inr (.inl w)))])) (hS : va_S (fun q : Nat => s.heap.size ≤ q) s.heap H locs) (ls : Array Slot) (hl : lv_has ls 9 [(0, .ref b), (1, .ref (dA 0)), (2, .ref (mA 0)), (3, .ref (oA 0)), (4, .int i)]) (h : wpLc_472 K L xs i d mo x w) : W p l e room_1 s m #[Value.ref b] below meth c H locs cells slots Q (F0 m 472 ls []) := by
  have hx := C.1
  have hb := C.2.1
  have hts := C.2.2.1
  have hown := C.2.2.2.1
  have hml := C.2.2.2.2.2.1
  have hK := C.2.2.2.2.2.2.2
  have hbA : ¬ (fun q : Nat => s.heap.size ≤ q) b := Nat.not_le.mpr hbl
  unfold wpLc_472 at h
  refine lv_aload_n hx hb dL_law_472 rfl (lv_at hl 1 rfl) ?_
  refine lv_aload_n hx hb dL_law_473 rfl (lv_at hl 0 rfl) ?_
  refine lv_iload hx hb dL_law_474 (lv_at hl 4 rfl) ?_
  refine lv_iconst (v := 1) hx hb dL_law_476 (by decide) ?_
  refine lv_iadd hx hb dL_law_477 ?_
  obtain ⟨g9, h⟩ := h
  refine va_sld hx hb hX hbl hbA hS g9 dL_law_478 ?_
  refine lv_aload_n hx hb dL_law_479 rfl (lv_at hl 0 rfl) ?_
  refine lv_iload hx hb dL_law_480 (lv_at hl 4 rfl) ?_
  refine lv_iconst (v := 2) hx hb dL_law_482 (by decide) ?_
  refine lv_iadd hx hb dL_law_483 ?_
  obtain ⟨g9, h⟩ := h
  refine va_sld hx hb hX hbl hbA hS g9 dL_law_484 ?_
  refine lv_aload_n hx hb dL_law_485 rfl (lv_at hl 3 rfl) ?_
  refine z_WH (As := [.ref (dA 0), .int (xs (i + 1).toNatClampNeg), .int (xs (i + 2).toNatClampNeg), .ref (oA 0)]) (rest := []) (wr := (wM cI mA mo ++ wS cB (fun _ : Nat => mA 10) x : va_W)) (wN := (fun u : Int32 × DS × (Nat → Int64) => wD cI dA bA aA tA u.2.1 ++ wM cI mA mo ++ wS cB (fun _ : Nat => mA 10) x ++ [((oA 0), .inl (cJ, 1, .inr (.inl u.2.2)))])) [0, 1, 2, 3, 4, 5, 6, 7, 8, 9, 10, 11, 12, 13, 14, 15, 16, 17, 18, 19, 20, 21, 34] [22, 23, 24, 25, 26, 27, 28, 29, 30, 31, 32, 33] [12, 13, 14, 15, 16, 17, 18, 19, 20, 21, 22, 23, 24, 25, 26, 27, 28, 29, 30, 31, 32, 33, 0, 1, 2, 3, 4, 5, 6, 7, 8, 9, 10, 11, 34] C hG hA hP hD hS (c_L_stop hfl hs0 D cI cB cJ dA bA aA tA oA d w (xs (i + 1).toNatClampNeg) (xs (i + 2).toNatClampNeg) h) q672 v_L_stop rfl rfl ⟨by decide, by decide, by decide⟩ (by decide) (fun _ => rfl) rfl ⟨(by first | (dsimp only [room_1]; omega) | omega | exact Nat.le_of_ble_eq_true rfl), (by first | (dsimp only [room_1]; omega) | omega | exact Nat.le_of_ble_eq_true rfl)⟩ ⟨(by first | (dsimp only [room_1]; omega) | omega | exact Nat.le_of_ble_eq_true rfl), (by first | (dsimp only [room_1]; omega) | omega | exact Nat.le_of_ble_eq_true rfl)⟩ hl.1 rfl (lv_room (by first | (dsimp only [room_1]; omega) | omega | exact Nat.le_of_ble_eq_true rfl)) dL_law_486 (fun u H locs h hP hD hS => ?_)
  obtain ⟨r486, d486, w486⟩ := u
  have hP : va_P D vwCl (wD cI dA bA aA tA d486 ++ wM cI mA mo ++ wS cB (fun _ : Nat => mA 10) x ++ [((oA 0), .inl (cJ, 1, .inr (.inl w486)))]) H := hP
  have hD : va_D (fun q : Nat => s.heap.size ≤ q) (wD cI dA bA aA tA d486 ++ wM cI mA mo ++ wS cB (fun _ : Nat => mA 10) x ++ [((oA 0), .inl (cJ, 1, .inr (.inl w486)))]) := hD
  refine lv_istore (lv' := [(5, .int r486), (0, .ref b), (1, .ref (dA 0)), (2, .ref (mA 0)), (3, .ref (oA 0)), (4, .int i)]) hx hb dL_law_489 hl (by decide) rfl (fun ls hl => ?_)
  refine lv_aload_n hx hb dL_law_491 rfl (lv_at hl 3 rfl) ?_
  refine lv_aload_n hx hb dL_law_492 rfl (lv_at hl 1 rfl) ?_
  refine lv_iload hx hb dL_law_493 (lv_at hl 5 rfl) ?_
  refine lv_iconst (v := 1) hx hb dL_law_495 (by decide) ?_
  refine lv_iadd hx hb dL_law_496 ?_
  obtain ⟨g9, h⟩ := h
  refine va_sld hx hb hX hbl hbA hS g9 dL_law_497 ?_
  refine lv_aload_n hx hb dL_law_498 rfl (lv_at hl 1 rfl) ?_
  refine lv_iload hx hb dL_law_499 (lv_at hl 5 rfl) ?_
  refine lv_iconst (v := 2) hx hb dL_law_501 (by decide) ?_
  refine lv_iadd hx hb dL_law_502 ?_
  obtain ⟨g9, h⟩ := h
  refine va_sld hx hb hX hbl hbA hS g9 dL_law_503 ?_
  refine z_WV (As := [.int (xs (i + 1).toNatClampNeg), .int (xs (i + 2).toNatClampNeg)]) (rest := []) (wr := (wD cI dA bA aA tA d486 ++ wS cB (fun _ : Nat => mA 10) x ++ [((oA 0), .inl (cJ, 1, .inr (.inl w486)))] : va_W)) (wN := (fun u : Int32 × MS => wD cI dA bA aA tA d486 ++ wM cI mA u.2 ++ wS cB (fun _ : Nat => mA 10) x ++ [((oA 0), .inl (cJ, 1, .inr (.inl w486)))])) [22, 23, 24, 25, 26, 27, 28, 29, 30, 31] [0, 1, 2, 3, 4, 5, 6, 7, 8, 9, 10, 11, 12, 13, 14, 15, 16, 17, 18, 19, 20, 21, 32, 33, 34] [0, 1, 2, 3, 4, 5, 6, 7, 8, 9, 10, 11, 12, 13, 14, 15, 16, 17, 18, 19, 20, 21, 25, 26, 27, 28, 29, 30, 31, 32, 33, 34, 22, 23, 24] C hG hA hP hD hS (c_X3_stop hfl hs0 D cI cB cJ mA mo (xs (i + 1).toNatClampNeg) (xs (i + 2).toNatClampNeg) h) q673 v_X3_stop rfl rfl ⟨by decide, by decide, by decide⟩ (by decide) (fun _ => rfl) rfl rfl rfl ⟨(by first | (dsimp only [room_1]; omega) | omega | exact Nat.le_of_ble_eq_true rfl), (by first | (dsimp only [room_1]; omega) | omega | exact Nat.le_of_ble_eq_true rfl)⟩ ⟨(by first | (dsimp only [room_1]; omega) | omega | exact Nat.le_of_ble_eq_true rfl), (by first | (dsimp only [room_1]; omega) | omega | exact Nat.le_of_ble_eq_true rfl)⟩ hl.1 rfl (lv_room (by first | (dsimp only [room_1]; omega) | omega | exact Nat.le_of_ble_eq_true rfl)) dL_law_504 (fun u H locs h hP hD hS => ?_)
  obtain ⟨r504, mo504⟩ := u
  have hP : va_P D vwCl (wD cI dA bA aA tA d486 ++ wM cI mA mo504 ++ wS cB (fun _ : Nat => mA 10) x ++ [((oA 0), .inl (cJ, 1, .inr (.inl w486)))]) H := hP
  have hD : va_D (fun q : Nat => s.heap.size ≤ q) (wD cI dA bA aA tA d486 ++ wM cI mA mo504 ++ wS cB (fun _ : Nat => mA 10) x ++ [((oA 0), .inl (cJ, 1, .inr (.inl w486)))]) := hD
  refine lv_istore (lv' := [(6, .int r504), (5, .int r486), (0, .ref b), (1, .ref (dA 0)), (2, .ref (mA 0)), (3, .ref (oA 0)), (4, .int i)]) hx hb dL_law_507 hl (by decide) rfl (fun ls hl => ?_)
  refine lv_aload_n hx hb dL_law_509 rfl (lv_at hl 4 rfl) ?_
  refine z_RV (As := []) (rest := []) [22, 23, 24, 25, 26, 27, 28, 29, 30, 31] C (hG.kept hS.1 hS.2.1).none hP (c_X3_thrown hfl hs0 D cI cB cJ mA mo504 h) q650 v_X3_thrown rfl rfl rfl rfl ⟨(by first | (dsimp only [room_1]; omega) | omega | exact Nat.le_of_ble_eq_true rfl), (by first | (dsimp only [room_1]; omega) | omega | exact Nat.le_of_ble_eq_true rfl)⟩ ⟨(by first | (dsimp only [room_1]; omega) | omega | exact Nat.le_of_ble_eq_true rfl), (by first | (dsimp only [room_1]; omega) | omega | exact Nat.le_of_ble_eq_true rfl)⟩ hl.1 rfl (lv_room (by first | (dsimp only [room_1]; omega) | omega | exact Nat.le_of_ble_eq_true rfl)) dL_law_510 (fun r510 h => ?_)
  refine lv_iload hx hb dL_law_513 (lv_at hl 1 rfl) ?_
  refine lv_icmp_eq (tgt := 520) hx hb dL_law_515 (by decide) (fun c515 => ?_) (fun c515 => ?_)
  · have h := h.1 c515
    refine lv_iload hx hb dL_law_520 (lv_at hl 1 rfl) ?_
    refine lv_if_ne (tgt := 537) hx hb dL_law_522 (by decide) (fun c522 => ?_) (fun c522 => ?_)
    · have h := h.2 c522
      refine lv_goto (tgt := 1648) hx hb dL_law_537 (by decide) ?_
      refine lv_iinc (v := (i + 8)) (lv' := [(4, .int (i + 8)), (6, .int r504), (5, .int r486), (0, .ref b), (1, .ref (dA 0)), (2, .ref (mA 0)), (3, .ref (oA 0))]) hx hb dL_law_1648 hl (k := 6) rfl (by first | rfl | decide) (by decide) rfl (fun ls hl => ?_)
      refine lv_goto (tgt := 23) hx hb dL_law_1651 (by decide) ?_
      refine W.widen (k := cells + 210) (n := slots + 6594) (by first | (dsimp only [room_1]; omega) | omega | exact Nat.le_of_ble_eq_true rfl) (by first | (dsimp only [room_1]; omega) | omega | exact Nat.le_of_ble_eq_true rfl) ?_
      exact hk _ _ _ _ _ _ _ hP hD hS _ (lv_sub hl [3, 4, 5, 6, 0] rfl) h
    · have h := h.1 c522
      refine lv_aload_n hx hb dL_law_525 rfl (lv_at hl 5 rfl) ?_
      refine lv_iconst (v := 0) hx hb dL_law_526 (by decide) ?_
      refine va_lald hx hb hK hP 34 2 rfl rfl (show ¬ ((0 : Int32) < 0 ∨ 1 ≤ (0 : Int32).toNatClampNeg) from by decide) dL_law_527 ?_
      refine lv_iload hx hb dL_law_528 (lv_at hl 0 rfl) ?_
      refine lv_i2l hx hb dL_law_530 rfl ?_
      refine W.lcmp hx hb dL_law_531 ?_
      refine lv_if_eq (tgt := 537) hx hb dL_law_532 (by decide) (fun c532 => ?_) (fun c532 => ?_)
      · have h := h.1 c532
        refine lv_goto (tgt := 1648) hx hb dL_law_537 (by decide) ?_
        refine lv_iinc (v := (i + 8)) (lv' := [(4, .int (i + 8)), (6, .int r504), (5, .int r486), (0, .ref b), (1, .ref (dA 0)), (2, .ref (mA 0)), (3, .ref (oA 0))]) hx hb dL_law_1648 hl (k := 6) rfl (by first | rfl | decide) (by decide) rfl (fun ls hl => ?_)
        refine lv_goto (tgt := 23) hx hb dL_law_1651 (by decide) ?_
        refine W.widen (k := cells + 210) (n := slots + 6594) (by first | (dsimp only [room_1]; omega) | omega | exact Nat.le_of_ble_eq_true rfl) (by first | (dsimp only [room_1]; omega) | omega | exact Nat.le_of_ble_eq_true rfl) ?_
        exact hk _ _ _ _ _ _ _ hP hD hS _ (lv_sub hl [3, 4, 5, 6, 0] rfl) h
      · have h := h.2 c532
        refine lv_iconst (v := 0) hx hb dL_law_535 (by decide) ?_
        exact (show False from h).elim
  · have h := h.2 c515
    refine lv_iconst (v := 0) hx hb dL_law_518 (by decide) ?_
    exact (show False from h).elim
def wpLc_540 (K : Int32 → DS → MS → SS → (Nat → Int64) → Prop) (L : Nat) (xs : Nat → Int32) (i : Int32) (d : DS) (mo : MS) (x : SS) (w : Nat → Int64) : Prop := vp_in (i + 1) L ∧ (vp_in (i + 2) L ∧ (wpL_give (fun r554 d554 w554 => vp_in (i + 1) L ∧ (vp_in (i + 2) L ∧ (wpX3_give (fun r572 mo572 => wpX3_thrown (fun r578 => (r578 = r554 → (r554 = 0 → ((lg_cmp (w554 (0 : Int32).toNatClampNeg) r572.toInt64) = 0 → K (i + 8) d554 mo572 x w554) ∧ (¬ (lg_cmp (w554 (0 : Int32).toNatClampNeg) r572.toInt64) = 0 → False)) ∧ (¬ r554 = 0 → K (i + 8) d554 mo572 x w554)) ∧ (¬ r578 = r554 → False)) mo572) mo (xs (i + 1).toNatClampNeg) (xs (i + 2).toNatClampNeg)))) d w (xs (i + 1).toNatClampNeg) (xs (i + 2).toNatClampNeg)))
set_option maxHeartbeats 4000000 in
set_option maxRecDepth 100000 in
theorem lc_540 {p : Program} {l : Launch} {e : Env} {s : State} {m : MethodId} {below : List Frame} {meth : Method} {c : Code} {b L : Nat} {xs : Nat → Int32} {D : va_G} {cI cB cJ : ClassId} {dA bA aA tA mA oA : Nat → Nat} {Q : State → Prop} {cells slots : Nat} {K : Int32 → DS → MS → SS → (Nat → Int64) → Prop} (hfl : l.stackTraces = false) (hs0 : zS s) (C : zC D (zty cI cB cJ) p s m #[Value.ref b] meth c cL_law RL ret 9) (hA : ∀ q : Nat, s.heap.size ≤ q → (fun q : Nat => s.heap.size ≤ q) q) (hG : zG s (fun q : Nat => s.heap.size ≤ q) s s.heap) (hX : va_X b L xs s s.heap) (hbl : b < s.heap.size) (hcs : cells + 210 ≤ 635979 ∧ slots + 6594 ≤ 7188166)
    (hk : ∀ (i : Int32) (d : DS) (mo : MS) (x : SS) (w : Nat → Int64) (H : Heap) (locs : List Loc), va_P D vwCl (wD cI dA bA aA tA d ++ wM cI mA mo ++ wS cB (fun _ : Nat => mA 10) x ++ [((oA 0), .inl (cJ, 1, .inr (.inl w)))]) H → va_D (fun q : Nat => s.heap.size ≤ q) (wD cI dA bA aA tA d ++ wM cI mA mo ++ wS cB (fun _ : Nat => mA 10) x ++ [((oA 0), .inl (cJ, 1, .inr (.inl w)))]) → va_S (fun q : Nat => s.heap.size ≤ q) s.heap H locs → ∀ ls : Array Slot, lv_has ls 9 [(0, .ref b), (1, .ref (dA 0)), (2, .ref (mA 0)), (3, .ref (oA 0)), (4, .int i)] → K i d mo x w → W p l e room_1 s m #[Value.ref b] below meth c H locs (cells + 210) (slots + 6594) Q (F0 m 23 ls []))
    (i : Int32) (d : DS) (mo : MS) (x : SS) (w : Nat → Int64) (H : Heap) (locs : List Loc) (hP : va_P D vwCl (wD cI dA bA aA tA d ++ wM cI mA mo ++ wS cB (fun _ : Nat => mA 10) x ++ [((oA 0), .inl (cJ, 1, .inr (.inl w)))]) H) (hD : va_D (fun q : Nat => s.heap.size ≤ q) (wD cI dA bA aA tA d ++ wM cI mA mo ++ wS cB (fun _ : Nat => mA 10) x ++ [((oA 0), .inl (cJ, 1, .inr (.inl w)))])) (hS : va_S (fun q : Nat => s.heap.size ≤ q) s.heap H locs) (ls : Array Slot) (hl : lv_has ls 9 [(0, .ref b), (1, .ref (dA 0)), (2, .ref (mA 0)), (3, .ref (oA 0)), (4, .int i)]) (h : wpLc_540 K L xs i d mo x w) : W p l e room_1 s m #[Value.ref b] below meth c H locs cells slots Q (F0 m 540 ls []) := by
  have hx := C.1
  have hb := C.2.1
  have hts := C.2.2.1
  have hown := C.2.2.2.1
  have hml := C.2.2.2.2.2.1
  have hK := C.2.2.2.2.2.2.2
  have hbA : ¬ (fun q : Nat => s.heap.size ≤ q) b := Nat.not_le.mpr hbl
  unfold wpLc_540 at h
  refine lv_aload_n hx hb dL_law_540 rfl (lv_at hl 1 rfl) ?_
  refine lv_aload_n hx hb dL_law_541 rfl (lv_at hl 0 rfl) ?_
  refine lv_iload hx hb dL_law_542 (lv_at hl 4 rfl) ?_
  refine lv_iconst (v := 1) hx hb dL_law_544 (by decide) ?_
  refine lv_iadd hx hb dL_law_545 ?_
  obtain ⟨g9, h⟩ := h
  refine va_sld hx hb hX hbl hbA hS g9 dL_law_546 ?_
  refine lv_aload_n hx hb dL_law_547 rfl (lv_at hl 0 rfl) ?_
  refine lv_iload hx hb dL_law_548 (lv_at hl 4 rfl) ?_
  refine lv_iconst (v := 2) hx hb dL_law_550 (by decide) ?_
  refine lv_iadd hx hb dL_law_551 ?_
  obtain ⟨g9, h⟩ := h
  refine va_sld hx hb hX hbl hbA hS g9 dL_law_552 ?_
  refine lv_aload_n hx hb dL_law_553 rfl (lv_at hl 3 rfl) ?_
  refine z_WH (As := [.ref (dA 0), .int (xs (i + 1).toNatClampNeg), .int (xs (i + 2).toNatClampNeg), .ref (oA 0)]) (rest := []) (wr := (wM cI mA mo ++ wS cB (fun _ : Nat => mA 10) x : va_W)) (wN := (fun u : Int32 × DS × (Nat → Int64) => wD cI dA bA aA tA u.2.1 ++ wM cI mA mo ++ wS cB (fun _ : Nat => mA 10) x ++ [((oA 0), .inl (cJ, 1, .inr (.inl u.2.2)))])) [0, 1, 2, 3, 4, 5, 6, 7, 8, 9, 10, 11, 12, 13, 14, 15, 16, 17, 18, 19, 20, 21, 34] [22, 23, 24, 25, 26, 27, 28, 29, 30, 31, 32, 33] [12, 13, 14, 15, 16, 17, 18, 19, 20, 21, 22, 23, 24, 25, 26, 27, 28, 29, 30, 31, 32, 33, 0, 1, 2, 3, 4, 5, 6, 7, 8, 9, 10, 11, 34] C hG hA hP hD hS (c_L_give hfl hs0 D cI cB cJ dA bA aA tA oA d w (xs (i + 1).toNatClampNeg) (xs (i + 2).toNatClampNeg) h) q677 v_L_give rfl rfl ⟨by decide, by decide, by decide⟩ (by decide) (fun _ => rfl) rfl ⟨(by first | (dsimp only [room_1]; omega) | omega | exact Nat.le_of_ble_eq_true rfl), (by first | (dsimp only [room_1]; omega) | omega | exact Nat.le_of_ble_eq_true rfl)⟩ ⟨(by first | (dsimp only [room_1]; omega) | omega | exact Nat.le_of_ble_eq_true rfl), (by first | (dsimp only [room_1]; omega) | omega | exact Nat.le_of_ble_eq_true rfl)⟩ hl.1 rfl (lv_room (by first | (dsimp only [room_1]; omega) | omega | exact Nat.le_of_ble_eq_true rfl)) dL_law_554 (fun u H locs h hP hD hS => ?_)
  obtain ⟨r554, d554, w554⟩ := u
  have hP : va_P D vwCl (wD cI dA bA aA tA d554 ++ wM cI mA mo ++ wS cB (fun _ : Nat => mA 10) x ++ [((oA 0), .inl (cJ, 1, .inr (.inl w554)))]) H := hP
  have hD : va_D (fun q : Nat => s.heap.size ≤ q) (wD cI dA bA aA tA d554 ++ wM cI mA mo ++ wS cB (fun _ : Nat => mA 10) x ++ [((oA 0), .inl (cJ, 1, .inr (.inl w554)))]) := hD
  refine lv_istore (lv' := [(5, .int r554), (0, .ref b), (1, .ref (dA 0)), (2, .ref (mA 0)), (3, .ref (oA 0)), (4, .int i)]) hx hb dL_law_557 hl (by decide) rfl (fun ls hl => ?_)
  refine lv_aload_n hx hb dL_law_559 rfl (lv_at hl 3 rfl) ?_
  refine lv_aload_n hx hb dL_law_560 rfl (lv_at hl 1 rfl) ?_
  refine lv_iload hx hb dL_law_561 (lv_at hl 5 rfl) ?_
  refine lv_iconst (v := 1) hx hb dL_law_563 (by decide) ?_
  refine lv_iadd hx hb dL_law_564 ?_
  obtain ⟨g9, h⟩ := h
  refine va_sld hx hb hX hbl hbA hS g9 dL_law_565 ?_
  refine lv_aload_n hx hb dL_law_566 rfl (lv_at hl 1 rfl) ?_
  refine lv_iload hx hb dL_law_567 (lv_at hl 5 rfl) ?_
  refine lv_iconst (v := 2) hx hb dL_law_569 (by decide) ?_
  refine lv_iadd hx hb dL_law_570 ?_
  obtain ⟨g9, h⟩ := h
  refine va_sld hx hb hX hbl hbA hS g9 dL_law_571 ?_
  refine z_WV (As := [.int (xs (i + 1).toNatClampNeg), .int (xs (i + 2).toNatClampNeg)]) (rest := []) (wr := (wD cI dA bA aA tA d554 ++ wS cB (fun _ : Nat => mA 10) x ++ [((oA 0), .inl (cJ, 1, .inr (.inl w554)))] : va_W)) (wN := (fun u : Int32 × MS => wD cI dA bA aA tA d554 ++ wM cI mA u.2 ++ wS cB (fun _ : Nat => mA 10) x ++ [((oA 0), .inl (cJ, 1, .inr (.inl w554)))])) [22, 23, 24, 25, 26, 27, 28, 29, 30, 31] [0, 1, 2, 3, 4, 5, 6, 7, 8, 9, 10, 11, 12, 13, 14, 15, 16, 17, 18, 19, 20, 21, 32, 33, 34] [0, 1, 2, 3, 4, 5, 6, 7, 8, 9, 10, 11, 12, 13, 14, 15, 16, 17, 18, 19, 20, 21, 25, 26, 27, 28, 29, 30, 31, 32, 33, 34, 22, 23, 24] C hG hA hP hD hS (c_X3_give hfl hs0 D cI cB cJ mA mo (xs (i + 1).toNatClampNeg) (xs (i + 2).toNatClampNeg) h) q678 v_X3_give rfl rfl ⟨by decide, by decide, by decide⟩ (by decide) (fun _ => rfl) rfl rfl rfl ⟨(by first | (dsimp only [room_1]; omega) | omega | exact Nat.le_of_ble_eq_true rfl), (by first | (dsimp only [room_1]; omega) | omega | exact Nat.le_of_ble_eq_true rfl)⟩ ⟨(by first | (dsimp only [room_1]; omega) | omega | exact Nat.le_of_ble_eq_true rfl), (by first | (dsimp only [room_1]; omega) | omega | exact Nat.le_of_ble_eq_true rfl)⟩ hl.1 rfl (lv_room (by first | (dsimp only [room_1]; omega) | omega | exact Nat.le_of_ble_eq_true rfl)) dL_law_572 (fun u H locs h hP hD hS => ?_)
  obtain ⟨r572, mo572⟩ := u
  have hP : va_P D vwCl (wD cI dA bA aA tA d554 ++ wM cI mA mo572 ++ wS cB (fun _ : Nat => mA 10) x ++ [((oA 0), .inl (cJ, 1, .inr (.inl w554)))]) H := hP
  have hD : va_D (fun q : Nat => s.heap.size ≤ q) (wD cI dA bA aA tA d554 ++ wM cI mA mo572 ++ wS cB (fun _ : Nat => mA 10) x ++ [((oA 0), .inl (cJ, 1, .inr (.inl w554)))]) := hD
  refine lv_istore (lv' := [(6, .int r572), (5, .int r554), (0, .ref b), (1, .ref (dA 0)), (2, .ref (mA 0)), (3, .ref (oA 0)), (4, .int i)]) hx hb dL_law_575 hl (by decide) rfl (fun ls hl => ?_)
  refine lv_aload_n hx hb dL_law_577 rfl (lv_at hl 4 rfl) ?_
  refine z_RV (As := []) (rest := []) [22, 23, 24, 25, 26, 27, 28, 29, 30, 31] C (hG.kept hS.1 hS.2.1).none hP (c_X3_thrown hfl hs0 D cI cB cJ mA mo572 h) q650 v_X3_thrown rfl rfl rfl rfl ⟨(by first | (dsimp only [room_1]; omega) | omega | exact Nat.le_of_ble_eq_true rfl), (by first | (dsimp only [room_1]; omega) | omega | exact Nat.le_of_ble_eq_true rfl)⟩ ⟨(by first | (dsimp only [room_1]; omega) | omega | exact Nat.le_of_ble_eq_true rfl), (by first | (dsimp only [room_1]; omega) | omega | exact Nat.le_of_ble_eq_true rfl)⟩ hl.1 rfl (lv_room (by first | (dsimp only [room_1]; omega) | omega | exact Nat.le_of_ble_eq_true rfl)) dL_law_578 (fun r578 h => ?_)
  refine lv_iload hx hb dL_law_581 (lv_at hl 1 rfl) ?_
  refine lv_icmp_eq (tgt := 588) hx hb dL_law_583 (by decide) (fun c583 => ?_) (fun c583 => ?_)
  · have h := h.1 c583
    refine lv_iload hx hb dL_law_588 (lv_at hl 1 rfl) ?_
    refine lv_if_ne (tgt := 605) hx hb dL_law_590 (by decide) (fun c590 => ?_) (fun c590 => ?_)
    · have h := h.2 c590
      refine lv_goto (tgt := 1648) hx hb dL_law_605 (by decide) ?_
      refine lv_iinc (v := (i + 8)) (lv' := [(4, .int (i + 8)), (6, .int r572), (5, .int r554), (0, .ref b), (1, .ref (dA 0)), (2, .ref (mA 0)), (3, .ref (oA 0))]) hx hb dL_law_1648 hl (k := 6) rfl (by first | rfl | decide) (by decide) rfl (fun ls hl => ?_)
      refine lv_goto (tgt := 23) hx hb dL_law_1651 (by decide) ?_
      refine W.widen (k := cells + 210) (n := slots + 6594) (by first | (dsimp only [room_1]; omega) | omega | exact Nat.le_of_ble_eq_true rfl) (by first | (dsimp only [room_1]; omega) | omega | exact Nat.le_of_ble_eq_true rfl) ?_
      exact hk _ _ _ _ _ _ _ hP hD hS _ (lv_sub hl [3, 4, 5, 6, 0] rfl) h
    · have h := h.1 c590
      refine lv_aload_n hx hb dL_law_593 rfl (lv_at hl 5 rfl) ?_
      refine lv_iconst (v := 0) hx hb dL_law_594 (by decide) ?_
      refine va_lald hx hb hK hP 34 2 rfl rfl (show ¬ ((0 : Int32) < 0 ∨ 1 ≤ (0 : Int32).toNatClampNeg) from by decide) dL_law_595 ?_
      refine lv_iload hx hb dL_law_596 (lv_at hl 0 rfl) ?_
      refine lv_i2l hx hb dL_law_598 rfl ?_
      refine W.lcmp hx hb dL_law_599 ?_
      refine lv_if_eq (tgt := 605) hx hb dL_law_600 (by decide) (fun c600 => ?_) (fun c600 => ?_)
      · have h := h.1 c600
        refine lv_goto (tgt := 1648) hx hb dL_law_605 (by decide) ?_
        refine lv_iinc (v := (i + 8)) (lv' := [(4, .int (i + 8)), (6, .int r572), (5, .int r554), (0, .ref b), (1, .ref (dA 0)), (2, .ref (mA 0)), (3, .ref (oA 0))]) hx hb dL_law_1648 hl (k := 6) rfl (by first | rfl | decide) (by decide) rfl (fun ls hl => ?_)
        refine lv_goto (tgt := 23) hx hb dL_law_1651 (by decide) ?_
        refine W.widen (k := cells + 210) (n := slots + 6594) (by first | (dsimp only [room_1]; omega) | omega | exact Nat.le_of_ble_eq_true rfl) (by first | (dsimp only [room_1]; omega) | omega | exact Nat.le_of_ble_eq_true rfl) ?_
        exact hk _ _ _ _ _ _ _ hP hD hS _ (lv_sub hl [3, 4, 5, 6, 0] rfl) h
      · have h := h.2 c600
        refine lv_iconst (v := 0) hx hb dL_law_603 (by decide) ?_
        exact (show False from h).elim
  · have h := h.2 c583
    refine lv_iconst (v := 0) hx hb dL_law_586 (by decide) ?_
    exact (show False from h).elim
def wpLc_608 (K : Int32 → DS → MS → SS → (Nat → Int64) → Prop) (L : Nat) (xs : Nat → Int32) (i : Int32) (d : DS) (mo : MS) (x : SS) (w : Nat → Int64) : Prop := vp_in (i + 1) L ∧ (wpL_pass (fun r616 d616 w616 => vp_in (i + 1) L ∧ (wpX3_pass (fun r628 mo628 => wpX3_thrown (fun r634 => (r634 = r616 → (r616 = 0 → ((lg_cmp (w616 (0 : Int32).toNatClampNeg) r628.toInt64) = 0 → K (i + 8) d616 mo628 x w616) ∧ (¬ (lg_cmp (w616 (0 : Int32).toNatClampNeg) r628.toInt64) = 0 → False)) ∧ (¬ r616 = 0 → K (i + 8) d616 mo628 x w616)) ∧ (¬ r634 = r616 → False)) mo628) mo (xs (i + 1).toNatClampNeg))) d w (xs (i + 1).toNatClampNeg))
set_option maxHeartbeats 4000000 in
set_option maxRecDepth 100000 in
theorem lc_608 {p : Program} {l : Launch} {e : Env} {s : State} {m : MethodId} {below : List Frame} {meth : Method} {c : Code} {b L : Nat} {xs : Nat → Int32} {D : va_G} {cI cB cJ : ClassId} {dA bA aA tA mA oA : Nat → Nat} {Q : State → Prop} {cells slots : Nat} {K : Int32 → DS → MS → SS → (Nat → Int64) → Prop} (hfl : l.stackTraces = false) (hs0 : zS s) (C : zC D (zty cI cB cJ) p s m #[Value.ref b] meth c cL_law RL ret 9) (hA : ∀ q : Nat, s.heap.size ≤ q → (fun q : Nat => s.heap.size ≤ q) q) (hG : zG s (fun q : Nat => s.heap.size ≤ q) s s.heap) (hX : va_X b L xs s s.heap) (hbl : b < s.heap.size) (hcs : cells + 210 ≤ 635979 ∧ slots + 6594 ≤ 7188166)
    (hk : ∀ (i : Int32) (d : DS) (mo : MS) (x : SS) (w : Nat → Int64) (H : Heap) (locs : List Loc), va_P D vwCl (wD cI dA bA aA tA d ++ wM cI mA mo ++ wS cB (fun _ : Nat => mA 10) x ++ [((oA 0), .inl (cJ, 1, .inr (.inl w)))]) H → va_D (fun q : Nat => s.heap.size ≤ q) (wD cI dA bA aA tA d ++ wM cI mA mo ++ wS cB (fun _ : Nat => mA 10) x ++ [((oA 0), .inl (cJ, 1, .inr (.inl w)))]) → va_S (fun q : Nat => s.heap.size ≤ q) s.heap H locs → ∀ ls : Array Slot, lv_has ls 9 [(0, .ref b), (1, .ref (dA 0)), (2, .ref (mA 0)), (3, .ref (oA 0)), (4, .int i)] → K i d mo x w → W p l e room_1 s m #[Value.ref b] below meth c H locs (cells + 210) (slots + 6594) Q (F0 m 23 ls []))
    (i : Int32) (d : DS) (mo : MS) (x : SS) (w : Nat → Int64) (H : Heap) (locs : List Loc) (hP : va_P D vwCl (wD cI dA bA aA tA d ++ wM cI mA mo ++ wS cB (fun _ : Nat => mA 10) x ++ [((oA 0), .inl (cJ, 1, .inr (.inl w)))]) H) (hD : va_D (fun q : Nat => s.heap.size ≤ q) (wD cI dA bA aA tA d ++ wM cI mA mo ++ wS cB (fun _ : Nat => mA 10) x ++ [((oA 0), .inl (cJ, 1, .inr (.inl w)))])) (hS : va_S (fun q : Nat => s.heap.size ≤ q) s.heap H locs) (ls : Array Slot) (hl : lv_has ls 9 [(0, .ref b), (1, .ref (dA 0)), (2, .ref (mA 0)), (3, .ref (oA 0)), (4, .int i)]) (h : wpLc_608 K L xs i d mo x w) : W p l e room_1 s m #[Value.ref b] below meth c H locs cells slots Q (F0 m 608 ls []) := by
  have hx := C.1
  have hb := C.2.1
  have hts := C.2.2.1
  have hown := C.2.2.2.1
  have hml := C.2.2.2.2.2.1
  have hK := C.2.2.2.2.2.2.2
  have hbA : ¬ (fun q : Nat => s.heap.size ≤ q) b := Nat.not_le.mpr hbl
  unfold wpLc_608 at h
  refine lv_aload_n hx hb dL_law_608 rfl (lv_at hl 1 rfl) ?_
  refine lv_aload_n hx hb dL_law_609 rfl (lv_at hl 0 rfl) ?_
  refine lv_iload hx hb dL_law_610 (lv_at hl 4 rfl) ?_
  refine lv_iconst (v := 1) hx hb dL_law_612 (by decide) ?_
  refine lv_iadd hx hb dL_law_613 ?_
  obtain ⟨g9, h⟩ := h
  refine va_sld hx hb hX hbl hbA hS g9 dL_law_614 ?_
  refine lv_aload_n hx hb dL_law_615 rfl (lv_at hl 3 rfl) ?_
  refine z_WH (As := [.ref (dA 0), .int (xs (i + 1).toNatClampNeg), .ref (oA 0)]) (rest := []) (wr := (wM cI mA mo ++ wS cB (fun _ : Nat => mA 10) x : va_W)) (wN := (fun u : Int32 × DS × (Nat → Int64) => wD cI dA bA aA tA u.2.1 ++ wM cI mA mo ++ wS cB (fun _ : Nat => mA 10) x ++ [((oA 0), .inl (cJ, 1, .inr (.inl u.2.2)))])) [0, 1, 2, 3, 4, 5, 6, 7, 8, 9, 10, 11, 12, 13, 14, 15, 16, 17, 18, 19, 20, 21, 34] [22, 23, 24, 25, 26, 27, 28, 29, 30, 31, 32, 33] [12, 13, 14, 15, 16, 17, 18, 19, 20, 21, 22, 23, 24, 25, 26, 27, 28, 29, 30, 31, 32, 33, 0, 1, 2, 3, 4, 5, 6, 7, 8, 9, 10, 11, 34] C hG hA hP hD hS (c_L_pass hfl hs0 D cI cB cJ dA bA aA tA oA d w (xs (i + 1).toNatClampNeg) h) q682 v_L_pass rfl rfl ⟨by decide, by decide, by decide⟩ (by decide) (fun _ => rfl) rfl ⟨(by first | (dsimp only [room_1]; omega) | omega | exact Nat.le_of_ble_eq_true rfl), (by first | (dsimp only [room_1]; omega) | omega | exact Nat.le_of_ble_eq_true rfl)⟩ ⟨(by first | (dsimp only [room_1]; omega) | omega | exact Nat.le_of_ble_eq_true rfl), (by first | (dsimp only [room_1]; omega) | omega | exact Nat.le_of_ble_eq_true rfl)⟩ hl.1 rfl (lv_room (by first | (dsimp only [room_1]; omega) | omega | exact Nat.le_of_ble_eq_true rfl)) dL_law_616 (fun u H locs h hP hD hS => ?_)
  obtain ⟨r616, d616, w616⟩ := u
  have hP : va_P D vwCl (wD cI dA bA aA tA d616 ++ wM cI mA mo ++ wS cB (fun _ : Nat => mA 10) x ++ [((oA 0), .inl (cJ, 1, .inr (.inl w616)))]) H := hP
  have hD : va_D (fun q : Nat => s.heap.size ≤ q) (wD cI dA bA aA tA d616 ++ wM cI mA mo ++ wS cB (fun _ : Nat => mA 10) x ++ [((oA 0), .inl (cJ, 1, .inr (.inl w616)))]) := hD
  refine lv_istore (lv' := [(5, .int r616), (0, .ref b), (1, .ref (dA 0)), (2, .ref (mA 0)), (3, .ref (oA 0)), (4, .int i)]) hx hb dL_law_619 hl (by decide) rfl (fun ls hl => ?_)
  refine lv_aload_n hx hb dL_law_621 rfl (lv_at hl 3 rfl) ?_
  refine lv_aload_n hx hb dL_law_622 rfl (lv_at hl 1 rfl) ?_
  refine lv_iload hx hb dL_law_623 (lv_at hl 5 rfl) ?_
  refine lv_iconst (v := 1) hx hb dL_law_625 (by decide) ?_
  refine lv_iadd hx hb dL_law_626 ?_
  obtain ⟨g9, h⟩ := h
  refine va_sld hx hb hX hbl hbA hS g9 dL_law_627 ?_
  refine z_WV (As := [.int (xs (i + 1).toNatClampNeg)]) (rest := []) (wr := (wD cI dA bA aA tA d616 ++ wS cB (fun _ : Nat => mA 10) x ++ [((oA 0), .inl (cJ, 1, .inr (.inl w616)))] : va_W)) (wN := (fun u : Int32 × MS => wD cI dA bA aA tA d616 ++ wM cI mA u.2 ++ wS cB (fun _ : Nat => mA 10) x ++ [((oA 0), .inl (cJ, 1, .inr (.inl w616)))])) [22, 23, 24, 25, 26, 27, 28, 29, 30, 31] [0, 1, 2, 3, 4, 5, 6, 7, 8, 9, 10, 11, 12, 13, 14, 15, 16, 17, 18, 19, 20, 21, 32, 33, 34] [0, 1, 2, 3, 4, 5, 6, 7, 8, 9, 10, 11, 12, 13, 14, 15, 16, 17, 18, 19, 20, 21, 25, 26, 27, 28, 29, 30, 31, 32, 33, 34, 22, 23, 24] C hG hA hP hD hS (c_X3_pass hfl hs0 D cI cB cJ mA mo (xs (i + 1).toNatClampNeg) h) q683 v_X3_pass rfl rfl ⟨by decide, by decide, by decide⟩ (by decide) (fun _ => rfl) rfl rfl rfl ⟨(by first | (dsimp only [room_1]; omega) | omega | exact Nat.le_of_ble_eq_true rfl), (by first | (dsimp only [room_1]; omega) | omega | exact Nat.le_of_ble_eq_true rfl)⟩ ⟨(by first | (dsimp only [room_1]; omega) | omega | exact Nat.le_of_ble_eq_true rfl), (by first | (dsimp only [room_1]; omega) | omega | exact Nat.le_of_ble_eq_true rfl)⟩ hl.1 rfl (lv_room (by first | (dsimp only [room_1]; omega) | omega | exact Nat.le_of_ble_eq_true rfl)) dL_law_628 (fun u H locs h hP hD hS => ?_)
  obtain ⟨r628, mo628⟩ := u
  have hP : va_P D vwCl (wD cI dA bA aA tA d616 ++ wM cI mA mo628 ++ wS cB (fun _ : Nat => mA 10) x ++ [((oA 0), .inl (cJ, 1, .inr (.inl w616)))]) H := hP
  have hD : va_D (fun q : Nat => s.heap.size ≤ q) (wD cI dA bA aA tA d616 ++ wM cI mA mo628 ++ wS cB (fun _ : Nat => mA 10) x ++ [((oA 0), .inl (cJ, 1, .inr (.inl w616)))]) := hD
  refine lv_istore (lv' := [(6, .int r628), (5, .int r616), (0, .ref b), (1, .ref (dA 0)), (2, .ref (mA 0)), (3, .ref (oA 0)), (4, .int i)]) hx hb dL_law_631 hl (by decide) rfl (fun ls hl => ?_)
  refine lv_aload_n hx hb dL_law_633 rfl (lv_at hl 4 rfl) ?_
  refine z_RV (As := []) (rest := []) [22, 23, 24, 25, 26, 27, 28, 29, 30, 31] C (hG.kept hS.1 hS.2.1).none hP (c_X3_thrown hfl hs0 D cI cB cJ mA mo628 h) q650 v_X3_thrown rfl rfl rfl rfl ⟨(by first | (dsimp only [room_1]; omega) | omega | exact Nat.le_of_ble_eq_true rfl), (by first | (dsimp only [room_1]; omega) | omega | exact Nat.le_of_ble_eq_true rfl)⟩ ⟨(by first | (dsimp only [room_1]; omega) | omega | exact Nat.le_of_ble_eq_true rfl), (by first | (dsimp only [room_1]; omega) | omega | exact Nat.le_of_ble_eq_true rfl)⟩ hl.1 rfl (lv_room (by first | (dsimp only [room_1]; omega) | omega | exact Nat.le_of_ble_eq_true rfl)) dL_law_634 (fun r634 h => ?_)
  refine lv_iload hx hb dL_law_637 (lv_at hl 1 rfl) ?_
  refine lv_icmp_eq (tgt := 644) hx hb dL_law_639 (by decide) (fun c639 => ?_) (fun c639 => ?_)
  · have h := h.1 c639
    refine lv_iload hx hb dL_law_644 (lv_at hl 1 rfl) ?_
    refine lv_if_ne (tgt := 661) hx hb dL_law_646 (by decide) (fun c646 => ?_) (fun c646 => ?_)
    · have h := h.2 c646
      refine lv_goto (tgt := 1648) hx hb dL_law_661 (by decide) ?_
      refine lv_iinc (v := (i + 8)) (lv' := [(4, .int (i + 8)), (6, .int r628), (5, .int r616), (0, .ref b), (1, .ref (dA 0)), (2, .ref (mA 0)), (3, .ref (oA 0))]) hx hb dL_law_1648 hl (k := 6) rfl (by first | rfl | decide) (by decide) rfl (fun ls hl => ?_)
      refine lv_goto (tgt := 23) hx hb dL_law_1651 (by decide) ?_
      refine W.widen (k := cells + 210) (n := slots + 6594) (by first | (dsimp only [room_1]; omega) | omega | exact Nat.le_of_ble_eq_true rfl) (by first | (dsimp only [room_1]; omega) | omega | exact Nat.le_of_ble_eq_true rfl) ?_
      exact hk _ _ _ _ _ _ _ hP hD hS _ (lv_sub hl [3, 4, 5, 6, 0] rfl) h
    · have h := h.1 c646
      refine lv_aload_n hx hb dL_law_649 rfl (lv_at hl 5 rfl) ?_
      refine lv_iconst (v := 0) hx hb dL_law_650 (by decide) ?_
      refine va_lald hx hb hK hP 34 2 rfl rfl (show ¬ ((0 : Int32) < 0 ∨ 1 ≤ (0 : Int32).toNatClampNeg) from by decide) dL_law_651 ?_
      refine lv_iload hx hb dL_law_652 (lv_at hl 0 rfl) ?_
      refine lv_i2l hx hb dL_law_654 rfl ?_
      refine W.lcmp hx hb dL_law_655 ?_
      refine lv_if_eq (tgt := 661) hx hb dL_law_656 (by decide) (fun c656 => ?_) (fun c656 => ?_)
      · have h := h.1 c656
        refine lv_goto (tgt := 1648) hx hb dL_law_661 (by decide) ?_
        refine lv_iinc (v := (i + 8)) (lv' := [(4, .int (i + 8)), (6, .int r628), (5, .int r616), (0, .ref b), (1, .ref (dA 0)), (2, .ref (mA 0)), (3, .ref (oA 0))]) hx hb dL_law_1648 hl (k := 6) rfl (by first | rfl | decide) (by decide) rfl (fun ls hl => ?_)
        refine lv_goto (tgt := 23) hx hb dL_law_1651 (by decide) ?_
        refine W.widen (k := cells + 210) (n := slots + 6594) (by first | (dsimp only [room_1]; omega) | omega | exact Nat.le_of_ble_eq_true rfl) (by first | (dsimp only [room_1]; omega) | omega | exact Nat.le_of_ble_eq_true rfl) ?_
        exact hk _ _ _ _ _ _ _ hP hD hS _ (lv_sub hl [3, 4, 5, 6, 0] rfl) h
      · have h := h.2 c656
        refine lv_iconst (v := 0) hx hb dL_law_659 (by decide) ?_
        exact (show False from h).elim
  · have h := h.2 c639
    refine lv_iconst (v := 0) hx hb dL_law_642 (by decide) ?_
    exact (show False from h).elim
def wpLc_664 (K : Int32 → DS → MS → SS → (Nat → Int64) → Prop) (L : Nat) (xs : Nat → Int32) (i : Int32) (d : DS) (mo : MS) (x : SS) (w : Nat → Int64) : Prop := wpX2_day (fun r665 => wpX3_day (fun r669 mo669 => (r665 = r669 → K (i + 8) d mo669 x w) ∧ (¬ r665 = r669 → False)) mo) d
set_option maxHeartbeats 4000000 in
set_option maxRecDepth 100000 in
theorem lc_664 {p : Program} {l : Launch} {e : Env} {s : State} {m : MethodId} {below : List Frame} {meth : Method} {c : Code} {b L : Nat} {xs : Nat → Int32} {D : va_G} {cI cB cJ : ClassId} {dA bA aA tA mA oA : Nat → Nat} {Q : State → Prop} {cells slots : Nat} {K : Int32 → DS → MS → SS → (Nat → Int64) → Prop} (hfl : l.stackTraces = false) (hs0 : zS s) (C : zC D (zty cI cB cJ) p s m #[Value.ref b] meth c cL_law RL ret 9) (hA : ∀ q : Nat, s.heap.size ≤ q → (fun q : Nat => s.heap.size ≤ q) q) (hG : zG s (fun q : Nat => s.heap.size ≤ q) s s.heap) (hX : va_X b L xs s s.heap) (hbl : b < s.heap.size) (hcs : cells + 210 ≤ 635979 ∧ slots + 6594 ≤ 7188166)
    (hk : ∀ (i : Int32) (d : DS) (mo : MS) (x : SS) (w : Nat → Int64) (H : Heap) (locs : List Loc), va_P D vwCl (wD cI dA bA aA tA d ++ wM cI mA mo ++ wS cB (fun _ : Nat => mA 10) x ++ [((oA 0), .inl (cJ, 1, .inr (.inl w)))]) H → va_D (fun q : Nat => s.heap.size ≤ q) (wD cI dA bA aA tA d ++ wM cI mA mo ++ wS cB (fun _ : Nat => mA 10) x ++ [((oA 0), .inl (cJ, 1, .inr (.inl w)))]) → va_S (fun q : Nat => s.heap.size ≤ q) s.heap H locs → ∀ ls : Array Slot, lv_has ls 9 [(0, .ref b), (1, .ref (dA 0)), (2, .ref (mA 0)), (3, .ref (oA 0)), (4, .int i)] → K i d mo x w → W p l e room_1 s m #[Value.ref b] below meth c H locs (cells + 210) (slots + 6594) Q (F0 m 23 ls []))
    (i : Int32) (d : DS) (mo : MS) (x : SS) (w : Nat → Int64) (H : Heap) (locs : List Loc) (hP : va_P D vwCl (wD cI dA bA aA tA d ++ wM cI mA mo ++ wS cB (fun _ : Nat => mA 10) x ++ [((oA 0), .inl (cJ, 1, .inr (.inl w)))]) H) (hD : va_D (fun q : Nat => s.heap.size ≤ q) (wD cI dA bA aA tA d ++ wM cI mA mo ++ wS cB (fun _ : Nat => mA 10) x ++ [((oA 0), .inl (cJ, 1, .inr (.inl w)))])) (hS : va_S (fun q : Nat => s.heap.size ≤ q) s.heap H locs) (ls : Array Slot) (hl : lv_has ls 9 [(0, .ref b), (1, .ref (dA 0)), (2, .ref (mA 0)), (3, .ref (oA 0)), (4, .int i)]) (h : wpLc_664 K L xs i d mo x w) : W p l e room_1 s m #[Value.ref b] below meth c H locs cells slots Q (F0 m 664 ls []) := by
  have hx := C.1
  have hb := C.2.1
  have hts := C.2.2.1
  have hown := C.2.2.2.1
  have hml := C.2.2.2.2.2.1
  have hK := C.2.2.2.2.2.2.2
  have hbA : ¬ (fun q : Nat => s.heap.size ≤ q) b := Nat.not_le.mpr hbl
  unfold wpLc_664 at h
  refine lv_aload_n hx hb dL_law_664 rfl (lv_at hl 1 rfl) ?_
  refine z_RV (As := []) (rest := []) [0, 1, 2, 3, 4, 5, 6, 7, 8, 9, 10, 11, 12, 13, 14, 15, 16, 17, 18, 19, 20, 21] C (hG.kept hS.1 hS.2.1).none hP (c_X2_day hfl hs0 D cI cB cJ dA bA aA tA d h) q687 v_X2_day rfl rfl rfl rfl ⟨(by first | (dsimp only [room_1]; omega) | omega | exact Nat.le_of_ble_eq_true rfl), (by first | (dsimp only [room_1]; omega) | omega | exact Nat.le_of_ble_eq_true rfl)⟩ ⟨(by first | (dsimp only [room_1]; omega) | omega | exact Nat.le_of_ble_eq_true rfl), (by first | (dsimp only [room_1]; omega) | omega | exact Nat.le_of_ble_eq_true rfl)⟩ hl.1 rfl (lv_room (by first | (dsimp only [room_1]; omega) | omega | exact Nat.le_of_ble_eq_true rfl)) dL_law_665 (fun r665 h => ?_)
  refine lv_aload_n hx hb dL_law_668 rfl (lv_at hl 2 rfl) ?_
  refine z_WV (As := []) (rest := [.int r665]) (wr := (wD cI dA bA aA tA d ++ wS cB (fun _ : Nat => mA 10) x ++ [((oA 0), .inl (cJ, 1, .inr (.inl w)))] : va_W)) (wN := (fun u : Int32 × MS => wD cI dA bA aA tA d ++ wM cI mA u.2 ++ wS cB (fun _ : Nat => mA 10) x ++ [((oA 0), .inl (cJ, 1, .inr (.inl w)))])) [22, 23, 24, 25, 26, 27, 28, 29, 30, 31] [0, 1, 2, 3, 4, 5, 6, 7, 8, 9, 10, 11, 12, 13, 14, 15, 16, 17, 18, 19, 20, 21, 32, 33, 34] [0, 1, 2, 3, 4, 5, 6, 7, 8, 9, 10, 11, 12, 13, 14, 15, 16, 17, 18, 19, 20, 21, 25, 26, 27, 28, 29, 30, 31, 32, 33, 34, 22, 23, 24] C hG hA hP hD hS (c_X3_day hfl hs0 D cI cB cJ mA mo h) q688 v_X3_day rfl rfl ⟨by decide, by decide, by decide⟩ (by decide) (fun _ => rfl) rfl rfl rfl ⟨(by first | (dsimp only [room_1]; omega) | omega | exact Nat.le_of_ble_eq_true rfl), (by first | (dsimp only [room_1]; omega) | omega | exact Nat.le_of_ble_eq_true rfl)⟩ ⟨(by first | (dsimp only [room_1]; omega) | omega | exact Nat.le_of_ble_eq_true rfl), (by first | (dsimp only [room_1]; omega) | omega | exact Nat.le_of_ble_eq_true rfl)⟩ hl.1 rfl (lv_room (by first | (dsimp only [room_1]; omega) | omega | exact Nat.le_of_ble_eq_true rfl)) dL_law_669 (fun u H locs h hP hD hS => ?_)
  obtain ⟨r669, mo669⟩ := u
  have hP : va_P D vwCl (wD cI dA bA aA tA d ++ wM cI mA mo669 ++ wS cB (fun _ : Nat => mA 10) x ++ [((oA 0), .inl (cJ, 1, .inr (.inl w)))]) H := hP
  have hD : va_D (fun q : Nat => s.heap.size ≤ q) (wD cI dA bA aA tA d ++ wM cI mA mo669 ++ wS cB (fun _ : Nat => mA 10) x ++ [((oA 0), .inl (cJ, 1, .inr (.inl w)))]) := hD
  refine lv_icmp_eq (tgt := 1648) hx hb dL_law_672 (by decide) (fun c672 => ?_) (fun c672 => ?_)
  · have h := h.1 c672
    refine lv_iinc (v := (i + 8)) (lv' := [(4, .int (i + 8)), (0, .ref b), (1, .ref (dA 0)), (2, .ref (mA 0)), (3, .ref (oA 0))]) hx hb dL_law_1648 hl (k := 4) rfl (by first | rfl | decide) (by decide) rfl (fun ls hl => ?_)
    refine lv_goto (tgt := 23) hx hb dL_law_1651 (by decide) ?_
    refine W.widen (k := cells + 210) (n := slots + 6594) (by first | (dsimp only [room_1]; omega) | omega | exact Nat.le_of_ble_eq_true rfl) (by first | (dsimp only [room_1]; omega) | omega | exact Nat.le_of_ble_eq_true rfl) ?_
    exact hk _ _ _ _ _ _ _ hP hD hS _ (lv_sub hl [1, 2, 3, 4, 0] rfl) h
  · have h := h.2 c672
    refine lv_iconst (v := 0) hx hb dL_law_675 (by decide) ?_
    exact (show False from h).elim
def wpLc_677 (K : Int32 → DS → MS → SS → (Nat → Int64) → Prop) (L : Nat) (xs : Nat → Int32) (i : Int32) (d : DS) (mo : MS) (x : SS) (w : Nat → Int64) : Prop := wpX2_parties (fun r678 => wpX3_parties (fun r682 mo682 => (r678 = r682 → K (i + 8) d mo682 x w) ∧ (¬ r678 = r682 → False)) mo) d
set_option maxHeartbeats 4000000 in
set_option maxRecDepth 100000 in
theorem lc_677 {p : Program} {l : Launch} {e : Env} {s : State} {m : MethodId} {below : List Frame} {meth : Method} {c : Code} {b L : Nat} {xs : Nat → Int32} {D : va_G} {cI cB cJ : ClassId} {dA bA aA tA mA oA : Nat → Nat} {Q : State → Prop} {cells slots : Nat} {K : Int32 → DS → MS → SS → (Nat → Int64) → Prop} (hfl : l.stackTraces = false) (hs0 : zS s) (C : zC D (zty cI cB cJ) p s m #[Value.ref b] meth c cL_law RL ret 9) (hA : ∀ q : Nat, s.heap.size ≤ q → (fun q : Nat => s.heap.size ≤ q) q) (hG : zG s (fun q : Nat => s.heap.size ≤ q) s s.heap) (hX : va_X b L xs s s.heap) (hbl : b < s.heap.size) (hcs : cells + 210 ≤ 635979 ∧ slots + 6594 ≤ 7188166)
    (hk : ∀ (i : Int32) (d : DS) (mo : MS) (x : SS) (w : Nat → Int64) (H : Heap) (locs : List Loc), va_P D vwCl (wD cI dA bA aA tA d ++ wM cI mA mo ++ wS cB (fun _ : Nat => mA 10) x ++ [((oA 0), .inl (cJ, 1, .inr (.inl w)))]) H → va_D (fun q : Nat => s.heap.size ≤ q) (wD cI dA bA aA tA d ++ wM cI mA mo ++ wS cB (fun _ : Nat => mA 10) x ++ [((oA 0), .inl (cJ, 1, .inr (.inl w)))]) → va_S (fun q : Nat => s.heap.size ≤ q) s.heap H locs → ∀ ls : Array Slot, lv_has ls 9 [(0, .ref b), (1, .ref (dA 0)), (2, .ref (mA 0)), (3, .ref (oA 0)), (4, .int i)] → K i d mo x w → W p l e room_1 s m #[Value.ref b] below meth c H locs (cells + 210) (slots + 6594) Q (F0 m 23 ls []))
    (i : Int32) (d : DS) (mo : MS) (x : SS) (w : Nat → Int64) (H : Heap) (locs : List Loc) (hP : va_P D vwCl (wD cI dA bA aA tA d ++ wM cI mA mo ++ wS cB (fun _ : Nat => mA 10) x ++ [((oA 0), .inl (cJ, 1, .inr (.inl w)))]) H) (hD : va_D (fun q : Nat => s.heap.size ≤ q) (wD cI dA bA aA tA d ++ wM cI mA mo ++ wS cB (fun _ : Nat => mA 10) x ++ [((oA 0), .inl (cJ, 1, .inr (.inl w)))])) (hS : va_S (fun q : Nat => s.heap.size ≤ q) s.heap H locs) (ls : Array Slot) (hl : lv_has ls 9 [(0, .ref b), (1, .ref (dA 0)), (2, .ref (mA 0)), (3, .ref (oA 0)), (4, .int i)]) (h : wpLc_677 K L xs i d mo x w) : W p l e room_1 s m #[Value.ref b] below meth c H locs cells slots Q (F0 m 677 ls []) := by
  have hx := C.1
  have hb := C.2.1
  have hts := C.2.2.1
  have hown := C.2.2.2.1
  have hml := C.2.2.2.2.2.1
  have hK := C.2.2.2.2.2.2.2
  have hbA : ¬ (fun q : Nat => s.heap.size ≤ q) b := Nat.not_le.mpr hbl
  unfold wpLc_677 at h
  refine lv_aload_n hx hb dL_law_677 rfl (lv_at hl 1 rfl) ?_
  refine z_RV (As := []) (rest := []) [0, 1, 2, 3, 4, 5, 6, 7, 8, 9, 10, 11, 12, 13, 14, 15, 16, 17, 18, 19, 20, 21] C (hG.kept hS.1 hS.2.1).none hP (c_X2_parties hfl hs0 D cI cB cJ dA bA aA tA d h) q692 v_X2_parties rfl rfl rfl rfl ⟨(by first | (dsimp only [room_1]; omega) | omega | exact Nat.le_of_ble_eq_true rfl), (by first | (dsimp only [room_1]; omega) | omega | exact Nat.le_of_ble_eq_true rfl)⟩ ⟨(by first | (dsimp only [room_1]; omega) | omega | exact Nat.le_of_ble_eq_true rfl), (by first | (dsimp only [room_1]; omega) | omega | exact Nat.le_of_ble_eq_true rfl)⟩ hl.1 rfl (lv_room (by first | (dsimp only [room_1]; omega) | omega | exact Nat.le_of_ble_eq_true rfl)) dL_law_678 (fun r678 h => ?_)
  refine lv_aload_n hx hb dL_law_681 rfl (lv_at hl 2 rfl) ?_
  refine z_WV (As := []) (rest := [.int r678]) (wr := (wD cI dA bA aA tA d ++ wS cB (fun _ : Nat => mA 10) x ++ [((oA 0), .inl (cJ, 1, .inr (.inl w)))] : va_W)) (wN := (fun u : Int32 × MS => wD cI dA bA aA tA d ++ wM cI mA u.2 ++ wS cB (fun _ : Nat => mA 10) x ++ [((oA 0), .inl (cJ, 1, .inr (.inl w)))])) [22, 23, 24, 25, 26, 27, 28, 29, 30, 31] [0, 1, 2, 3, 4, 5, 6, 7, 8, 9, 10, 11, 12, 13, 14, 15, 16, 17, 18, 19, 20, 21, 32, 33, 34] [0, 1, 2, 3, 4, 5, 6, 7, 8, 9, 10, 11, 12, 13, 14, 15, 16, 17, 18, 19, 20, 21, 25, 26, 27, 28, 29, 30, 31, 32, 33, 34, 22, 23, 24] C hG hA hP hD hS (c_X3_parties hfl hs0 D cI cB cJ mA mo h) q693 v_X3_parties rfl rfl ⟨by decide, by decide, by decide⟩ (by decide) (fun _ => rfl) rfl rfl rfl ⟨(by first | (dsimp only [room_1]; omega) | omega | exact Nat.le_of_ble_eq_true rfl), (by first | (dsimp only [room_1]; omega) | omega | exact Nat.le_of_ble_eq_true rfl)⟩ ⟨(by first | (dsimp only [room_1]; omega) | omega | exact Nat.le_of_ble_eq_true rfl), (by first | (dsimp only [room_1]; omega) | omega | exact Nat.le_of_ble_eq_true rfl)⟩ hl.1 rfl (lv_room (by first | (dsimp only [room_1]; omega) | omega | exact Nat.le_of_ble_eq_true rfl)) dL_law_682 (fun u H locs h hP hD hS => ?_)
  obtain ⟨r682, mo682⟩ := u
  have hP : va_P D vwCl (wD cI dA bA aA tA d ++ wM cI mA mo682 ++ wS cB (fun _ : Nat => mA 10) x ++ [((oA 0), .inl (cJ, 1, .inr (.inl w)))]) H := hP
  have hD : va_D (fun q : Nat => s.heap.size ≤ q) (wD cI dA bA aA tA d ++ wM cI mA mo682 ++ wS cB (fun _ : Nat => mA 10) x ++ [((oA 0), .inl (cJ, 1, .inr (.inl w)))]) := hD
  refine lv_icmp_eq (tgt := 1648) hx hb dL_law_685 (by decide) (fun c685 => ?_) (fun c685 => ?_)
  · have h := h.1 c685
    refine lv_iinc (v := (i + 8)) (lv' := [(4, .int (i + 8)), (0, .ref b), (1, .ref (dA 0)), (2, .ref (mA 0)), (3, .ref (oA 0))]) hx hb dL_law_1648 hl (k := 4) rfl (by first | rfl | decide) (by decide) rfl (fun ls hl => ?_)
    refine lv_goto (tgt := 23) hx hb dL_law_1651 (by decide) ?_
    refine W.widen (k := cells + 210) (n := slots + 6594) (by first | (dsimp only [room_1]; omega) | omega | exact Nat.le_of_ble_eq_true rfl) (by first | (dsimp only [room_1]; omega) | omega | exact Nat.le_of_ble_eq_true rfl) ?_
    exact hk _ _ _ _ _ _ _ hP hD hS _ (lv_sub hl [1, 2, 3, 4, 0] rfl) h
  · have h := h.2 c685
    refine lv_iconst (v := 0) hx hb dL_law_688 (by decide) ?_
    exact (show False from h).elim
def wpLc_690 (K : Int32 → DS → MS → SS → (Nat → Int64) → Prop) (L : Nat) (xs : Nat → Int32) (i : Int32) (d : DS) (mo : MS) (x : SS) (w : Nat → Int64) : Prop := wpX2_duties (fun r691 => wpX3_duties (fun r695 mo695 => (r691 = r695 → K (i + 8) d mo695 x w) ∧ (¬ r691 = r695 → False)) mo) d
set_option maxHeartbeats 4000000 in
set_option maxRecDepth 100000 in
theorem lc_690 {p : Program} {l : Launch} {e : Env} {s : State} {m : MethodId} {below : List Frame} {meth : Method} {c : Code} {b L : Nat} {xs : Nat → Int32} {D : va_G} {cI cB cJ : ClassId} {dA bA aA tA mA oA : Nat → Nat} {Q : State → Prop} {cells slots : Nat} {K : Int32 → DS → MS → SS → (Nat → Int64) → Prop} (hfl : l.stackTraces = false) (hs0 : zS s) (C : zC D (zty cI cB cJ) p s m #[Value.ref b] meth c cL_law RL ret 9) (hA : ∀ q : Nat, s.heap.size ≤ q → (fun q : Nat => s.heap.size ≤ q) q) (hG : zG s (fun q : Nat => s.heap.size ≤ q) s s.heap) (hX : va_X b L xs s s.heap) (hbl : b < s.heap.size) (hcs : cells + 210 ≤ 635979 ∧ slots + 6594 ≤ 7188166)
    (hk : ∀ (i : Int32) (d : DS) (mo : MS) (x : SS) (w : Nat → Int64) (H : Heap) (locs : List Loc), va_P D vwCl (wD cI dA bA aA tA d ++ wM cI mA mo ++ wS cB (fun _ : Nat => mA 10) x ++ [((oA 0), .inl (cJ, 1, .inr (.inl w)))]) H → va_D (fun q : Nat => s.heap.size ≤ q) (wD cI dA bA aA tA d ++ wM cI mA mo ++ wS cB (fun _ : Nat => mA 10) x ++ [((oA 0), .inl (cJ, 1, .inr (.inl w)))]) → va_S (fun q : Nat => s.heap.size ≤ q) s.heap H locs → ∀ ls : Array Slot, lv_has ls 9 [(0, .ref b), (1, .ref (dA 0)), (2, .ref (mA 0)), (3, .ref (oA 0)), (4, .int i)] → K i d mo x w → W p l e room_1 s m #[Value.ref b] below meth c H locs (cells + 210) (slots + 6594) Q (F0 m 23 ls []))
    (i : Int32) (d : DS) (mo : MS) (x : SS) (w : Nat → Int64) (H : Heap) (locs : List Loc) (hP : va_P D vwCl (wD cI dA bA aA tA d ++ wM cI mA mo ++ wS cB (fun _ : Nat => mA 10) x ++ [((oA 0), .inl (cJ, 1, .inr (.inl w)))]) H) (hD : va_D (fun q : Nat => s.heap.size ≤ q) (wD cI dA bA aA tA d ++ wM cI mA mo ++ wS cB (fun _ : Nat => mA 10) x ++ [((oA 0), .inl (cJ, 1, .inr (.inl w)))])) (hS : va_S (fun q : Nat => s.heap.size ≤ q) s.heap H locs) (ls : Array Slot) (hl : lv_has ls 9 [(0, .ref b), (1, .ref (dA 0)), (2, .ref (mA 0)), (3, .ref (oA 0)), (4, .int i)]) (h : wpLc_690 K L xs i d mo x w) : W p l e room_1 s m #[Value.ref b] below meth c H locs cells slots Q (F0 m 690 ls []) := by
  have hx := C.1
  have hb := C.2.1
  have hts := C.2.2.1
  have hown := C.2.2.2.1
  have hml := C.2.2.2.2.2.1
  have hK := C.2.2.2.2.2.2.2
  have hbA : ¬ (fun q : Nat => s.heap.size ≤ q) b := Nat.not_le.mpr hbl
  unfold wpLc_690 at h
  refine lv_aload_n hx hb dL_law_690 rfl (lv_at hl 1 rfl) ?_
  refine z_RV (As := []) (rest := []) [0, 1, 2, 3, 4, 5, 6, 7, 8, 9, 10, 11, 12, 13, 14, 15, 16, 17, 18, 19, 20, 21] C (hG.kept hS.1 hS.2.1).none hP (c_X2_duties hfl hs0 D cI cB cJ dA bA aA tA d h) q697 v_X2_duties rfl rfl rfl rfl ⟨(by first | (dsimp only [room_1]; omega) | omega | exact Nat.le_of_ble_eq_true rfl), (by first | (dsimp only [room_1]; omega) | omega | exact Nat.le_of_ble_eq_true rfl)⟩ ⟨(by first | (dsimp only [room_1]; omega) | omega | exact Nat.le_of_ble_eq_true rfl), (by first | (dsimp only [room_1]; omega) | omega | exact Nat.le_of_ble_eq_true rfl)⟩ hl.1 rfl (lv_room (by first | (dsimp only [room_1]; omega) | omega | exact Nat.le_of_ble_eq_true rfl)) dL_law_691 (fun r691 h => ?_)
  refine lv_aload_n hx hb dL_law_694 rfl (lv_at hl 2 rfl) ?_
  refine z_WV (As := []) (rest := [.int r691]) (wr := (wD cI dA bA aA tA d ++ wS cB (fun _ : Nat => mA 10) x ++ [((oA 0), .inl (cJ, 1, .inr (.inl w)))] : va_W)) (wN := (fun u : Int32 × MS => wD cI dA bA aA tA d ++ wM cI mA u.2 ++ wS cB (fun _ : Nat => mA 10) x ++ [((oA 0), .inl (cJ, 1, .inr (.inl w)))])) [22, 23, 24, 25, 26, 27, 28, 29, 30, 31] [0, 1, 2, 3, 4, 5, 6, 7, 8, 9, 10, 11, 12, 13, 14, 15, 16, 17, 18, 19, 20, 21, 32, 33, 34] [0, 1, 2, 3, 4, 5, 6, 7, 8, 9, 10, 11, 12, 13, 14, 15, 16, 17, 18, 19, 20, 21, 25, 26, 27, 28, 29, 30, 31, 32, 33, 34, 22, 23, 24] C hG hA hP hD hS (c_X3_duties hfl hs0 D cI cB cJ mA mo h) q698 v_X3_duties rfl rfl ⟨by decide, by decide, by decide⟩ (by decide) (fun _ => rfl) rfl rfl rfl ⟨(by first | (dsimp only [room_1]; omega) | omega | exact Nat.le_of_ble_eq_true rfl), (by first | (dsimp only [room_1]; omega) | omega | exact Nat.le_of_ble_eq_true rfl)⟩ ⟨(by first | (dsimp only [room_1]; omega) | omega | exact Nat.le_of_ble_eq_true rfl), (by first | (dsimp only [room_1]; omega) | omega | exact Nat.le_of_ble_eq_true rfl)⟩ hl.1 rfl (lv_room (by first | (dsimp only [room_1]; omega) | omega | exact Nat.le_of_ble_eq_true rfl)) dL_law_695 (fun u H locs h hP hD hS => ?_)
  obtain ⟨r695, mo695⟩ := u
  have hP : va_P D vwCl (wD cI dA bA aA tA d ++ wM cI mA mo695 ++ wS cB (fun _ : Nat => mA 10) x ++ [((oA 0), .inl (cJ, 1, .inr (.inl w)))]) H := hP
  have hD : va_D (fun q : Nat => s.heap.size ≤ q) (wD cI dA bA aA tA d ++ wM cI mA mo695 ++ wS cB (fun _ : Nat => mA 10) x ++ [((oA 0), .inl (cJ, 1, .inr (.inl w)))]) := hD
  refine lv_icmp_eq (tgt := 1648) hx hb dL_law_698 (by decide) (fun c698 => ?_) (fun c698 => ?_)
  · have h := h.1 c698
    refine lv_iinc (v := (i + 8)) (lv' := [(4, .int (i + 8)), (0, .ref b), (1, .ref (dA 0)), (2, .ref (mA 0)), (3, .ref (oA 0))]) hx hb dL_law_1648 hl (k := 4) rfl (by first | rfl | decide) (by decide) rfl (fun ls hl => ?_)
    refine lv_goto (tgt := 23) hx hb dL_law_1651 (by decide) ?_
    refine W.widen (k := cells + 210) (n := slots + 6594) (by first | (dsimp only [room_1]; omega) | omega | exact Nat.le_of_ble_eq_true rfl) (by first | (dsimp only [room_1]; omega) | omega | exact Nat.le_of_ble_eq_true rfl) ?_
    exact hk _ _ _ _ _ _ _ hP hD hS _ (lv_sub hl [1, 2, 3, 4, 0] rfl) h
  · have h := h.2 c698
    refine lv_iconst (v := 0) hx hb dL_law_701 (by decide) ?_
    exact (show False from h).elim
def wpLc_703 (K : Int32 → DS → MS → SS → (Nat → Int64) → Prop) (L : Nat) (xs : Nat → Int32) (i : Int32) (d : DS) (mo : MS) (x : SS) (w : Nat → Int64) : Prop := vp_in (i + 1) L ∧ (wpL_inState (fun r711 d711 w711 => vp_in (i + 1) L ∧ (wpX3_inState (fun r723 mo723 => wpX3_thrown (fun r729 => (r729 = r711 → (r711 = 0 → ((lg_cmp (w711 (0 : Int32).toNatClampNeg) r723.toInt64) = 0 → K (i + 8) d711 mo723 x w711) ∧ (¬ (lg_cmp (w711 (0 : Int32).toNatClampNeg) r723.toInt64) = 0 → False)) ∧ (¬ r711 = 0 → K (i + 8) d711 mo723 x w711)) ∧ (¬ r729 = r711 → False)) mo723) mo (xs (i + 1).toNatClampNeg))) d w (xs (i + 1).toNatClampNeg))
set_option maxHeartbeats 4000000 in
set_option maxRecDepth 100000 in
theorem lc_703 {p : Program} {l : Launch} {e : Env} {s : State} {m : MethodId} {below : List Frame} {meth : Method} {c : Code} {b L : Nat} {xs : Nat → Int32} {D : va_G} {cI cB cJ : ClassId} {dA bA aA tA mA oA : Nat → Nat} {Q : State → Prop} {cells slots : Nat} {K : Int32 → DS → MS → SS → (Nat → Int64) → Prop} (hfl : l.stackTraces = false) (hs0 : zS s) (C : zC D (zty cI cB cJ) p s m #[Value.ref b] meth c cL_law RL ret 9) (hA : ∀ q : Nat, s.heap.size ≤ q → (fun q : Nat => s.heap.size ≤ q) q) (hG : zG s (fun q : Nat => s.heap.size ≤ q) s s.heap) (hX : va_X b L xs s s.heap) (hbl : b < s.heap.size) (hcs : cells + 210 ≤ 635979 ∧ slots + 6594 ≤ 7188166)
    (hk : ∀ (i : Int32) (d : DS) (mo : MS) (x : SS) (w : Nat → Int64) (H : Heap) (locs : List Loc), va_P D vwCl (wD cI dA bA aA tA d ++ wM cI mA mo ++ wS cB (fun _ : Nat => mA 10) x ++ [((oA 0), .inl (cJ, 1, .inr (.inl w)))]) H → va_D (fun q : Nat => s.heap.size ≤ q) (wD cI dA bA aA tA d ++ wM cI mA mo ++ wS cB (fun _ : Nat => mA 10) x ++ [((oA 0), .inl (cJ, 1, .inr (.inl w)))]) → va_S (fun q : Nat => s.heap.size ≤ q) s.heap H locs → ∀ ls : Array Slot, lv_has ls 9 [(0, .ref b), (1, .ref (dA 0)), (2, .ref (mA 0)), (3, .ref (oA 0)), (4, .int i)] → K i d mo x w → W p l e room_1 s m #[Value.ref b] below meth c H locs (cells + 210) (slots + 6594) Q (F0 m 23 ls []))
    (i : Int32) (d : DS) (mo : MS) (x : SS) (w : Nat → Int64) (H : Heap) (locs : List Loc) (hP : va_P D vwCl (wD cI dA bA aA tA d ++ wM cI mA mo ++ wS cB (fun _ : Nat => mA 10) x ++ [((oA 0), .inl (cJ, 1, .inr (.inl w)))]) H) (hD : va_D (fun q : Nat => s.heap.size ≤ q) (wD cI dA bA aA tA d ++ wM cI mA mo ++ wS cB (fun _ : Nat => mA 10) x ++ [((oA 0), .inl (cJ, 1, .inr (.inl w)))])) (hS : va_S (fun q : Nat => s.heap.size ≤ q) s.heap H locs) (ls : Array Slot) (hl : lv_has ls 9 [(0, .ref b), (1, .ref (dA 0)), (2, .ref (mA 0)), (3, .ref (oA 0)), (4, .int i)]) (h : wpLc_703 K L xs i d mo x w) : W p l e room_1 s m #[Value.ref b] below meth c H locs cells slots Q (F0 m 703 ls []) := by
  have hx := C.1
  have hb := C.2.1
  have hts := C.2.2.1
  have hown := C.2.2.2.1
  have hml := C.2.2.2.2.2.1
  have hK := C.2.2.2.2.2.2.2
  have hbA : ¬ (fun q : Nat => s.heap.size ≤ q) b := Nat.not_le.mpr hbl
  unfold wpLc_703 at h
  refine lv_aload_n hx hb dL_law_703 rfl (lv_at hl 1 rfl) ?_
  refine lv_aload_n hx hb dL_law_704 rfl (lv_at hl 0 rfl) ?_
  refine lv_iload hx hb dL_law_705 (lv_at hl 4 rfl) ?_
  refine lv_iconst (v := 1) hx hb dL_law_707 (by decide) ?_
  refine lv_iadd hx hb dL_law_708 ?_
  obtain ⟨g9, h⟩ := h
  refine va_sld hx hb hX hbl hbA hS g9 dL_law_709 ?_
  refine lv_aload_n hx hb dL_law_710 rfl (lv_at hl 3 rfl) ?_
  refine z_WH (As := [.ref (dA 0), .int (xs (i + 1).toNatClampNeg), .ref (oA 0)]) (rest := []) (wr := (wM cI mA mo ++ wS cB (fun _ : Nat => mA 10) x : va_W)) (wN := (fun u : Int32 × DS × (Nat → Int64) => wD cI dA bA aA tA u.2.1 ++ wM cI mA mo ++ wS cB (fun _ : Nat => mA 10) x ++ [((oA 0), .inl (cJ, 1, .inr (.inl u.2.2)))])) [0, 1, 2, 3, 4, 5, 6, 7, 8, 9, 10, 11, 12, 13, 14, 15, 16, 17, 18, 19, 20, 21, 34] [22, 23, 24, 25, 26, 27, 28, 29, 30, 31, 32, 33] [12, 13, 14, 15, 16, 17, 18, 19, 20, 21, 22, 23, 24, 25, 26, 27, 28, 29, 30, 31, 32, 33, 0, 1, 2, 3, 4, 5, 6, 7, 8, 9, 10, 11, 34] C hG hA hP hD hS (c_L_inState hfl hs0 D cI cB cJ dA bA aA tA oA d w (xs (i + 1).toNatClampNeg) h) q702 v_L_inState rfl rfl ⟨by decide, by decide, by decide⟩ (by decide) (fun _ => rfl) rfl ⟨(by first | (dsimp only [room_1]; omega) | omega | exact Nat.le_of_ble_eq_true rfl), (by first | (dsimp only [room_1]; omega) | omega | exact Nat.le_of_ble_eq_true rfl)⟩ ⟨(by first | (dsimp only [room_1]; omega) | omega | exact Nat.le_of_ble_eq_true rfl), (by first | (dsimp only [room_1]; omega) | omega | exact Nat.le_of_ble_eq_true rfl)⟩ hl.1 rfl (lv_room (by first | (dsimp only [room_1]; omega) | omega | exact Nat.le_of_ble_eq_true rfl)) dL_law_711 (fun u H locs h hP hD hS => ?_)
  obtain ⟨r711, d711, w711⟩ := u
  have hP : va_P D vwCl (wD cI dA bA aA tA d711 ++ wM cI mA mo ++ wS cB (fun _ : Nat => mA 10) x ++ [((oA 0), .inl (cJ, 1, .inr (.inl w711)))]) H := hP
  have hD : va_D (fun q : Nat => s.heap.size ≤ q) (wD cI dA bA aA tA d711 ++ wM cI mA mo ++ wS cB (fun _ : Nat => mA 10) x ++ [((oA 0), .inl (cJ, 1, .inr (.inl w711)))]) := hD
  refine lv_istore (lv' := [(5, .int r711), (0, .ref b), (1, .ref (dA 0)), (2, .ref (mA 0)), (3, .ref (oA 0)), (4, .int i)]) hx hb dL_law_714 hl (by decide) rfl (fun ls hl => ?_)
  refine lv_aload_n hx hb dL_law_716 rfl (lv_at hl 3 rfl) ?_
  refine lv_aload_n hx hb dL_law_717 rfl (lv_at hl 1 rfl) ?_
  refine lv_iload hx hb dL_law_718 (lv_at hl 5 rfl) ?_
  refine lv_iconst (v := 1) hx hb dL_law_720 (by decide) ?_
  refine lv_iadd hx hb dL_law_721 ?_
  obtain ⟨g9, h⟩ := h
  refine va_sld hx hb hX hbl hbA hS g9 dL_law_722 ?_
  refine z_WV (As := [.int (xs (i + 1).toNatClampNeg)]) (rest := []) (wr := (wD cI dA bA aA tA d711 ++ wS cB (fun _ : Nat => mA 10) x ++ [((oA 0), .inl (cJ, 1, .inr (.inl w711)))] : va_W)) (wN := (fun u : Int32 × MS => wD cI dA bA aA tA d711 ++ wM cI mA u.2 ++ wS cB (fun _ : Nat => mA 10) x ++ [((oA 0), .inl (cJ, 1, .inr (.inl w711)))])) [22, 23, 24, 25, 26, 27, 28, 29, 30, 31] [0, 1, 2, 3, 4, 5, 6, 7, 8, 9, 10, 11, 12, 13, 14, 15, 16, 17, 18, 19, 20, 21, 32, 33, 34] [0, 1, 2, 3, 4, 5, 6, 7, 8, 9, 10, 11, 12, 13, 14, 15, 16, 17, 18, 19, 20, 21, 25, 26, 27, 28, 29, 30, 31, 32, 33, 34, 22, 23, 24] C hG hA hP hD hS (c_X3_inState hfl hs0 D cI cB cJ mA mo (xs (i + 1).toNatClampNeg) h) q703 v_X3_inState rfl rfl ⟨by decide, by decide, by decide⟩ (by decide) (fun _ => rfl) rfl rfl rfl ⟨(by first | (dsimp only [room_1]; omega) | omega | exact Nat.le_of_ble_eq_true rfl), (by first | (dsimp only [room_1]; omega) | omega | exact Nat.le_of_ble_eq_true rfl)⟩ ⟨(by first | (dsimp only [room_1]; omega) | omega | exact Nat.le_of_ble_eq_true rfl), (by first | (dsimp only [room_1]; omega) | omega | exact Nat.le_of_ble_eq_true rfl)⟩ hl.1 rfl (lv_room (by first | (dsimp only [room_1]; omega) | omega | exact Nat.le_of_ble_eq_true rfl)) dL_law_723 (fun u H locs h hP hD hS => ?_)
  obtain ⟨r723, mo723⟩ := u
  have hP : va_P D vwCl (wD cI dA bA aA tA d711 ++ wM cI mA mo723 ++ wS cB (fun _ : Nat => mA 10) x ++ [((oA 0), .inl (cJ, 1, .inr (.inl w711)))]) H := hP
  have hD : va_D (fun q : Nat => s.heap.size ≤ q) (wD cI dA bA aA tA d711 ++ wM cI mA mo723 ++ wS cB (fun _ : Nat => mA 10) x ++ [((oA 0), .inl (cJ, 1, .inr (.inl w711)))]) := hD
  refine lv_istore (lv' := [(6, .int r723), (5, .int r711), (0, .ref b), (1, .ref (dA 0)), (2, .ref (mA 0)), (3, .ref (oA 0)), (4, .int i)]) hx hb dL_law_726 hl (by decide) rfl (fun ls hl => ?_)
  refine lv_aload_n hx hb dL_law_728 rfl (lv_at hl 4 rfl) ?_
  refine z_RV (As := []) (rest := []) [22, 23, 24, 25, 26, 27, 28, 29, 30, 31] C (hG.kept hS.1 hS.2.1).none hP (c_X3_thrown hfl hs0 D cI cB cJ mA mo723 h) q650 v_X3_thrown rfl rfl rfl rfl ⟨(by first | (dsimp only [room_1]; omega) | omega | exact Nat.le_of_ble_eq_true rfl), (by first | (dsimp only [room_1]; omega) | omega | exact Nat.le_of_ble_eq_true rfl)⟩ ⟨(by first | (dsimp only [room_1]; omega) | omega | exact Nat.le_of_ble_eq_true rfl), (by first | (dsimp only [room_1]; omega) | omega | exact Nat.le_of_ble_eq_true rfl)⟩ hl.1 rfl (lv_room (by first | (dsimp only [room_1]; omega) | omega | exact Nat.le_of_ble_eq_true rfl)) dL_law_729 (fun r729 h => ?_)
  refine lv_iload hx hb dL_law_732 (lv_at hl 1 rfl) ?_
  refine lv_icmp_eq (tgt := 739) hx hb dL_law_734 (by decide) (fun c734 => ?_) (fun c734 => ?_)
  · have h := h.1 c734
    refine lv_iload hx hb dL_law_739 (lv_at hl 1 rfl) ?_
    refine lv_if_ne (tgt := 756) hx hb dL_law_741 (by decide) (fun c741 => ?_) (fun c741 => ?_)
    · have h := h.2 c741
      refine lv_goto (tgt := 1648) hx hb dL_law_756 (by decide) ?_
      refine lv_iinc (v := (i + 8)) (lv' := [(4, .int (i + 8)), (6, .int r723), (5, .int r711), (0, .ref b), (1, .ref (dA 0)), (2, .ref (mA 0)), (3, .ref (oA 0))]) hx hb dL_law_1648 hl (k := 6) rfl (by first | rfl | decide) (by decide) rfl (fun ls hl => ?_)
      refine lv_goto (tgt := 23) hx hb dL_law_1651 (by decide) ?_
      refine W.widen (k := cells + 210) (n := slots + 6594) (by first | (dsimp only [room_1]; omega) | omega | exact Nat.le_of_ble_eq_true rfl) (by first | (dsimp only [room_1]; omega) | omega | exact Nat.le_of_ble_eq_true rfl) ?_
      exact hk _ _ _ _ _ _ _ hP hD hS _ (lv_sub hl [3, 4, 5, 6, 0] rfl) h
    · have h := h.1 c741
      refine lv_aload_n hx hb dL_law_744 rfl (lv_at hl 5 rfl) ?_
      refine lv_iconst (v := 0) hx hb dL_law_745 (by decide) ?_
      refine va_lald hx hb hK hP 34 2 rfl rfl (show ¬ ((0 : Int32) < 0 ∨ 1 ≤ (0 : Int32).toNatClampNeg) from by decide) dL_law_746 ?_
      refine lv_iload hx hb dL_law_747 (lv_at hl 0 rfl) ?_
      refine lv_i2l hx hb dL_law_749 rfl ?_
      refine W.lcmp hx hb dL_law_750 ?_
      refine lv_if_eq (tgt := 756) hx hb dL_law_751 (by decide) (fun c751 => ?_) (fun c751 => ?_)
      · have h := h.1 c751
        refine lv_goto (tgt := 1648) hx hb dL_law_756 (by decide) ?_
        refine lv_iinc (v := (i + 8)) (lv' := [(4, .int (i + 8)), (6, .int r723), (5, .int r711), (0, .ref b), (1, .ref (dA 0)), (2, .ref (mA 0)), (3, .ref (oA 0))]) hx hb dL_law_1648 hl (k := 6) rfl (by first | rfl | decide) (by decide) rfl (fun ls hl => ?_)
        refine lv_goto (tgt := 23) hx hb dL_law_1651 (by decide) ?_
        refine W.widen (k := cells + 210) (n := slots + 6594) (by first | (dsimp only [room_1]; omega) | omega | exact Nat.le_of_ble_eq_true rfl) (by first | (dsimp only [room_1]; omega) | omega | exact Nat.le_of_ble_eq_true rfl) ?_
        exact hk _ _ _ _ _ _ _ hP hD hS _ (lv_sub hl [3, 4, 5, 6, 0] rfl) h
      · have h := h.2 c751
        refine lv_iconst (v := 0) hx hb dL_law_754 (by decide) ?_
        exact (show False from h).elim
  · have h := h.2 c734
    refine lv_iconst (v := 0) hx hb dL_law_737 (by decide) ?_
    exact (show False from h).elim
def wpLc_759 (K : Int32 → DS → MS → SS → (Nat → Int64) → Prop) (L : Nat) (xs : Nat → Int32) (i : Int32) (d : DS) (mo : MS) (x : SS) (w : Nat → Int64) : Prop := vp_in (i + 1) L ∧ (wpL_purseOf (fun r767 d767 w767 => vp_in (i + 1) L ∧ (wpX3_purseOf (fun r779 mo779 => wpX3_thrown (fun r785 => (r785 = r767 → (r767 = 0 → ((lg_cmp (w767 (0 : Int32).toNatClampNeg) r779.toInt64) = 0 → K (i + 8) d767 mo779 x w767) ∧ (¬ (lg_cmp (w767 (0 : Int32).toNatClampNeg) r779.toInt64) = 0 → False)) ∧ (¬ r767 = 0 → K (i + 8) d767 mo779 x w767)) ∧ (¬ r785 = r767 → False)) mo779) mo (xs (i + 1).toNatClampNeg))) d w (xs (i + 1).toNatClampNeg))
set_option maxHeartbeats 4000000 in
set_option maxRecDepth 100000 in
theorem lc_759 {p : Program} {l : Launch} {e : Env} {s : State} {m : MethodId} {below : List Frame} {meth : Method} {c : Code} {b L : Nat} {xs : Nat → Int32} {D : va_G} {cI cB cJ : ClassId} {dA bA aA tA mA oA : Nat → Nat} {Q : State → Prop} {cells slots : Nat} {K : Int32 → DS → MS → SS → (Nat → Int64) → Prop} (hfl : l.stackTraces = false) (hs0 : zS s) (C : zC D (zty cI cB cJ) p s m #[Value.ref b] meth c cL_law RL ret 9) (hA : ∀ q : Nat, s.heap.size ≤ q → (fun q : Nat => s.heap.size ≤ q) q) (hG : zG s (fun q : Nat => s.heap.size ≤ q) s s.heap) (hX : va_X b L xs s s.heap) (hbl : b < s.heap.size) (hcs : cells + 210 ≤ 635979 ∧ slots + 6594 ≤ 7188166)
    (hk : ∀ (i : Int32) (d : DS) (mo : MS) (x : SS) (w : Nat → Int64) (H : Heap) (locs : List Loc), va_P D vwCl (wD cI dA bA aA tA d ++ wM cI mA mo ++ wS cB (fun _ : Nat => mA 10) x ++ [((oA 0), .inl (cJ, 1, .inr (.inl w)))]) H → va_D (fun q : Nat => s.heap.size ≤ q) (wD cI dA bA aA tA d ++ wM cI mA mo ++ wS cB (fun _ : Nat => mA 10) x ++ [((oA 0), .inl (cJ, 1, .inr (.inl w)))]) → va_S (fun q : Nat => s.heap.size ≤ q) s.heap H locs → ∀ ls : Array Slot, lv_has ls 9 [(0, .ref b), (1, .ref (dA 0)), (2, .ref (mA 0)), (3, .ref (oA 0)), (4, .int i)] → K i d mo x w → W p l e room_1 s m #[Value.ref b] below meth c H locs (cells + 210) (slots + 6594) Q (F0 m 23 ls []))
    (i : Int32) (d : DS) (mo : MS) (x : SS) (w : Nat → Int64) (H : Heap) (locs : List Loc) (hP : va_P D vwCl (wD cI dA bA aA tA d ++ wM cI mA mo ++ wS cB (fun _ : Nat => mA 10) x ++ [((oA 0), .inl (cJ, 1, .inr (.inl w)))]) H) (hD : va_D (fun q : Nat => s.heap.size ≤ q) (wD cI dA bA aA tA d ++ wM cI mA mo ++ wS cB (fun _ : Nat => mA 10) x ++ [((oA 0), .inl (cJ, 1, .inr (.inl w)))])) (hS : va_S (fun q : Nat => s.heap.size ≤ q) s.heap H locs) (ls : Array Slot) (hl : lv_has ls 9 [(0, .ref b), (1, .ref (dA 0)), (2, .ref (mA 0)), (3, .ref (oA 0)), (4, .int i)]) (h : wpLc_759 K L xs i d mo x w) : W p l e room_1 s m #[Value.ref b] below meth c H locs cells slots Q (F0 m 759 ls []) := by
  have hx := C.1
  have hb := C.2.1
  have hts := C.2.2.1
  have hown := C.2.2.2.1
  have hml := C.2.2.2.2.2.1
  have hK := C.2.2.2.2.2.2.2
  have hbA : ¬ (fun q : Nat => s.heap.size ≤ q) b := Nat.not_le.mpr hbl
  unfold wpLc_759 at h
  refine lv_aload_n hx hb dL_law_759 rfl (lv_at hl 1 rfl) ?_
  refine lv_aload_n hx hb dL_law_760 rfl (lv_at hl 0 rfl) ?_
  refine lv_iload hx hb dL_law_761 (lv_at hl 4 rfl) ?_
  refine lv_iconst (v := 1) hx hb dL_law_763 (by decide) ?_
  refine lv_iadd hx hb dL_law_764 ?_
  obtain ⟨g9, h⟩ := h
  refine va_sld hx hb hX hbl hbA hS g9 dL_law_765 ?_
  refine lv_aload_n hx hb dL_law_766 rfl (lv_at hl 3 rfl) ?_
  refine z_WH (As := [.ref (dA 0), .int (xs (i + 1).toNatClampNeg), .ref (oA 0)]) (rest := []) (wr := (wM cI mA mo ++ wS cB (fun _ : Nat => mA 10) x : va_W)) (wN := (fun u : Int32 × DS × (Nat → Int64) => wD cI dA bA aA tA u.2.1 ++ wM cI mA mo ++ wS cB (fun _ : Nat => mA 10) x ++ [((oA 0), .inl (cJ, 1, .inr (.inl u.2.2)))])) [0, 1, 2, 3, 4, 5, 6, 7, 8, 9, 10, 11, 12, 13, 14, 15, 16, 17, 18, 19, 20, 21, 34] [22, 23, 24, 25, 26, 27, 28, 29, 30, 31, 32, 33] [12, 13, 14, 15, 16, 17, 18, 19, 20, 21, 22, 23, 24, 25, 26, 27, 28, 29, 30, 31, 32, 33, 0, 1, 2, 3, 4, 5, 6, 7, 8, 9, 10, 11, 34] C hG hA hP hD hS (c_L_purseOf hfl hs0 D cI cB cJ dA bA aA tA oA d w (xs (i + 1).toNatClampNeg) h) q707 v_L_purseOf rfl rfl ⟨by decide, by decide, by decide⟩ (by decide) (fun _ => rfl) rfl ⟨(by first | (dsimp only [room_1]; omega) | omega | exact Nat.le_of_ble_eq_true rfl), (by first | (dsimp only [room_1]; omega) | omega | exact Nat.le_of_ble_eq_true rfl)⟩ ⟨(by first | (dsimp only [room_1]; omega) | omega | exact Nat.le_of_ble_eq_true rfl), (by first | (dsimp only [room_1]; omega) | omega | exact Nat.le_of_ble_eq_true rfl)⟩ hl.1 rfl (lv_room (by first | (dsimp only [room_1]; omega) | omega | exact Nat.le_of_ble_eq_true rfl)) dL_law_767 (fun u H locs h hP hD hS => ?_)
  obtain ⟨r767, d767, w767⟩ := u
  have hP : va_P D vwCl (wD cI dA bA aA tA d767 ++ wM cI mA mo ++ wS cB (fun _ : Nat => mA 10) x ++ [((oA 0), .inl (cJ, 1, .inr (.inl w767)))]) H := hP
  have hD : va_D (fun q : Nat => s.heap.size ≤ q) (wD cI dA bA aA tA d767 ++ wM cI mA mo ++ wS cB (fun _ : Nat => mA 10) x ++ [((oA 0), .inl (cJ, 1, .inr (.inl w767)))]) := hD
  refine lv_istore (lv' := [(5, .int r767), (0, .ref b), (1, .ref (dA 0)), (2, .ref (mA 0)), (3, .ref (oA 0)), (4, .int i)]) hx hb dL_law_770 hl (by decide) rfl (fun ls hl => ?_)
  refine lv_aload_n hx hb dL_law_772 rfl (lv_at hl 3 rfl) ?_
  refine lv_aload_n hx hb dL_law_773 rfl (lv_at hl 1 rfl) ?_
  refine lv_iload hx hb dL_law_774 (lv_at hl 5 rfl) ?_
  refine lv_iconst (v := 1) hx hb dL_law_776 (by decide) ?_
  refine lv_iadd hx hb dL_law_777 ?_
  obtain ⟨g9, h⟩ := h
  refine va_sld hx hb hX hbl hbA hS g9 dL_law_778 ?_
  refine z_WV (As := [.int (xs (i + 1).toNatClampNeg)]) (rest := []) (wr := (wD cI dA bA aA tA d767 ++ wS cB (fun _ : Nat => mA 10) x ++ [((oA 0), .inl (cJ, 1, .inr (.inl w767)))] : va_W)) (wN := (fun u : Int32 × MS => wD cI dA bA aA tA d767 ++ wM cI mA u.2 ++ wS cB (fun _ : Nat => mA 10) x ++ [((oA 0), .inl (cJ, 1, .inr (.inl w767)))])) [22, 23, 24, 25, 26, 27, 28, 29, 30, 31] [0, 1, 2, 3, 4, 5, 6, 7, 8, 9, 10, 11, 12, 13, 14, 15, 16, 17, 18, 19, 20, 21, 32, 33, 34] [0, 1, 2, 3, 4, 5, 6, 7, 8, 9, 10, 11, 12, 13, 14, 15, 16, 17, 18, 19, 20, 21, 25, 26, 27, 28, 29, 30, 31, 32, 33, 34, 22, 23, 24] C hG hA hP hD hS (c_X3_purseOf hfl hs0 D cI cB cJ mA mo (xs (i + 1).toNatClampNeg) h) q708 v_X3_purseOf rfl rfl ⟨by decide, by decide, by decide⟩ (by decide) (fun _ => rfl) rfl rfl rfl ⟨(by first | (dsimp only [room_1]; omega) | omega | exact Nat.le_of_ble_eq_true rfl), (by first | (dsimp only [room_1]; omega) | omega | exact Nat.le_of_ble_eq_true rfl)⟩ ⟨(by first | (dsimp only [room_1]; omega) | omega | exact Nat.le_of_ble_eq_true rfl), (by first | (dsimp only [room_1]; omega) | omega | exact Nat.le_of_ble_eq_true rfl)⟩ hl.1 rfl (lv_room (by first | (dsimp only [room_1]; omega) | omega | exact Nat.le_of_ble_eq_true rfl)) dL_law_779 (fun u H locs h hP hD hS => ?_)
  obtain ⟨r779, mo779⟩ := u
  have hP : va_P D vwCl (wD cI dA bA aA tA d767 ++ wM cI mA mo779 ++ wS cB (fun _ : Nat => mA 10) x ++ [((oA 0), .inl (cJ, 1, .inr (.inl w767)))]) H := hP
  have hD : va_D (fun q : Nat => s.heap.size ≤ q) (wD cI dA bA aA tA d767 ++ wM cI mA mo779 ++ wS cB (fun _ : Nat => mA 10) x ++ [((oA 0), .inl (cJ, 1, .inr (.inl w767)))]) := hD
  refine lv_istore (lv' := [(6, .int r779), (5, .int r767), (0, .ref b), (1, .ref (dA 0)), (2, .ref (mA 0)), (3, .ref (oA 0)), (4, .int i)]) hx hb dL_law_782 hl (by decide) rfl (fun ls hl => ?_)
  refine lv_aload_n hx hb dL_law_784 rfl (lv_at hl 4 rfl) ?_
  refine z_RV (As := []) (rest := []) [22, 23, 24, 25, 26, 27, 28, 29, 30, 31] C (hG.kept hS.1 hS.2.1).none hP (c_X3_thrown hfl hs0 D cI cB cJ mA mo779 h) q650 v_X3_thrown rfl rfl rfl rfl ⟨(by first | (dsimp only [room_1]; omega) | omega | exact Nat.le_of_ble_eq_true rfl), (by first | (dsimp only [room_1]; omega) | omega | exact Nat.le_of_ble_eq_true rfl)⟩ ⟨(by first | (dsimp only [room_1]; omega) | omega | exact Nat.le_of_ble_eq_true rfl), (by first | (dsimp only [room_1]; omega) | omega | exact Nat.le_of_ble_eq_true rfl)⟩ hl.1 rfl (lv_room (by first | (dsimp only [room_1]; omega) | omega | exact Nat.le_of_ble_eq_true rfl)) dL_law_785 (fun r785 h => ?_)
  refine lv_iload hx hb dL_law_788 (lv_at hl 1 rfl) ?_
  refine lv_icmp_eq (tgt := 795) hx hb dL_law_790 (by decide) (fun c790 => ?_) (fun c790 => ?_)
  · have h := h.1 c790
    refine lv_iload hx hb dL_law_795 (lv_at hl 1 rfl) ?_
    refine lv_if_ne (tgt := 812) hx hb dL_law_797 (by decide) (fun c797 => ?_) (fun c797 => ?_)
    · have h := h.2 c797
      refine lv_goto (tgt := 1648) hx hb dL_law_812 (by decide) ?_
      refine lv_iinc (v := (i + 8)) (lv' := [(4, .int (i + 8)), (6, .int r779), (5, .int r767), (0, .ref b), (1, .ref (dA 0)), (2, .ref (mA 0)), (3, .ref (oA 0))]) hx hb dL_law_1648 hl (k := 6) rfl (by first | rfl | decide) (by decide) rfl (fun ls hl => ?_)
      refine lv_goto (tgt := 23) hx hb dL_law_1651 (by decide) ?_
      refine W.widen (k := cells + 210) (n := slots + 6594) (by first | (dsimp only [room_1]; omega) | omega | exact Nat.le_of_ble_eq_true rfl) (by first | (dsimp only [room_1]; omega) | omega | exact Nat.le_of_ble_eq_true rfl) ?_
      exact hk _ _ _ _ _ _ _ hP hD hS _ (lv_sub hl [3, 4, 5, 6, 0] rfl) h
    · have h := h.1 c797
      refine lv_aload_n hx hb dL_law_800 rfl (lv_at hl 5 rfl) ?_
      refine lv_iconst (v := 0) hx hb dL_law_801 (by decide) ?_
      refine va_lald hx hb hK hP 34 2 rfl rfl (show ¬ ((0 : Int32) < 0 ∨ 1 ≤ (0 : Int32).toNatClampNeg) from by decide) dL_law_802 ?_
      refine lv_iload hx hb dL_law_803 (lv_at hl 0 rfl) ?_
      refine lv_i2l hx hb dL_law_805 rfl ?_
      refine W.lcmp hx hb dL_law_806 ?_
      refine lv_if_eq (tgt := 812) hx hb dL_law_807 (by decide) (fun c807 => ?_) (fun c807 => ?_)
      · have h := h.1 c807
        refine lv_goto (tgt := 1648) hx hb dL_law_812 (by decide) ?_
        refine lv_iinc (v := (i + 8)) (lv' := [(4, .int (i + 8)), (6, .int r779), (5, .int r767), (0, .ref b), (1, .ref (dA 0)), (2, .ref (mA 0)), (3, .ref (oA 0))]) hx hb dL_law_1648 hl (k := 6) rfl (by first | rfl | decide) (by decide) rfl (fun ls hl => ?_)
        refine lv_goto (tgt := 23) hx hb dL_law_1651 (by decide) ?_
        refine W.widen (k := cells + 210) (n := slots + 6594) (by first | (dsimp only [room_1]; omega) | omega | exact Nat.le_of_ble_eq_true rfl) (by first | (dsimp only [room_1]; omega) | omega | exact Nat.le_of_ble_eq_true rfl) ?_
        exact hk _ _ _ _ _ _ _ hP hD hS _ (lv_sub hl [3, 4, 5, 6, 0] rfl) h
      · have h := h.2 c807
        refine lv_iconst (v := 0) hx hb dL_law_810 (by decide) ?_
        exact (show False from h).elim
  · have h := h.2 c790
    refine lv_iconst (v := 0) hx hb dL_law_793 (by decide) ?_
    exact (show False from h).elim
def wpLc_815 (K : Int32 → DS → MS → SS → (Nat → Int64) → Prop) (L : Nat) (xs : Nat → Int32) (i : Int32) (d : DS) (mo : MS) (x : SS) (w : Nat → Int64) : Prop := wpX2_penalties (fun r816 => wpX3_penalties (fun r820 mo820 => (r816 = r820 → K (i + 8) d mo820 x w) ∧ (¬ r816 = r820 → False)) mo) d
set_option maxHeartbeats 4000000 in
set_option maxRecDepth 100000 in
theorem lc_815 {p : Program} {l : Launch} {e : Env} {s : State} {m : MethodId} {below : List Frame} {meth : Method} {c : Code} {b L : Nat} {xs : Nat → Int32} {D : va_G} {cI cB cJ : ClassId} {dA bA aA tA mA oA : Nat → Nat} {Q : State → Prop} {cells slots : Nat} {K : Int32 → DS → MS → SS → (Nat → Int64) → Prop} (hfl : l.stackTraces = false) (hs0 : zS s) (C : zC D (zty cI cB cJ) p s m #[Value.ref b] meth c cL_law RL ret 9) (hA : ∀ q : Nat, s.heap.size ≤ q → (fun q : Nat => s.heap.size ≤ q) q) (hG : zG s (fun q : Nat => s.heap.size ≤ q) s s.heap) (hX : va_X b L xs s s.heap) (hbl : b < s.heap.size) (hcs : cells + 210 ≤ 635979 ∧ slots + 6594 ≤ 7188166)
    (hk : ∀ (i : Int32) (d : DS) (mo : MS) (x : SS) (w : Nat → Int64) (H : Heap) (locs : List Loc), va_P D vwCl (wD cI dA bA aA tA d ++ wM cI mA mo ++ wS cB (fun _ : Nat => mA 10) x ++ [((oA 0), .inl (cJ, 1, .inr (.inl w)))]) H → va_D (fun q : Nat => s.heap.size ≤ q) (wD cI dA bA aA tA d ++ wM cI mA mo ++ wS cB (fun _ : Nat => mA 10) x ++ [((oA 0), .inl (cJ, 1, .inr (.inl w)))]) → va_S (fun q : Nat => s.heap.size ≤ q) s.heap H locs → ∀ ls : Array Slot, lv_has ls 9 [(0, .ref b), (1, .ref (dA 0)), (2, .ref (mA 0)), (3, .ref (oA 0)), (4, .int i)] → K i d mo x w → W p l e room_1 s m #[Value.ref b] below meth c H locs (cells + 210) (slots + 6594) Q (F0 m 23 ls []))
    (i : Int32) (d : DS) (mo : MS) (x : SS) (w : Nat → Int64) (H : Heap) (locs : List Loc) (hP : va_P D vwCl (wD cI dA bA aA tA d ++ wM cI mA mo ++ wS cB (fun _ : Nat => mA 10) x ++ [((oA 0), .inl (cJ, 1, .inr (.inl w)))]) H) (hD : va_D (fun q : Nat => s.heap.size ≤ q) (wD cI dA bA aA tA d ++ wM cI mA mo ++ wS cB (fun _ : Nat => mA 10) x ++ [((oA 0), .inl (cJ, 1, .inr (.inl w)))])) (hS : va_S (fun q : Nat => s.heap.size ≤ q) s.heap H locs) (ls : Array Slot) (hl : lv_has ls 9 [(0, .ref b), (1, .ref (dA 0)), (2, .ref (mA 0)), (3, .ref (oA 0)), (4, .int i)]) (h : wpLc_815 K L xs i d mo x w) : W p l e room_1 s m #[Value.ref b] below meth c H locs cells slots Q (F0 m 815 ls []) := by
  have hx := C.1
  have hb := C.2.1
  have hts := C.2.2.1
  have hown := C.2.2.2.1
  have hml := C.2.2.2.2.2.1
  have hK := C.2.2.2.2.2.2.2
  have hbA : ¬ (fun q : Nat => s.heap.size ≤ q) b := Nat.not_le.mpr hbl
  unfold wpLc_815 at h
  refine lv_aload_n hx hb dL_law_815 rfl (lv_at hl 1 rfl) ?_
  refine z_RV (As := []) (rest := []) [0, 1, 2, 3, 4, 5, 6, 7, 8, 9, 10, 11, 12, 13, 14, 15, 16, 17, 18, 19, 20, 21] C (hG.kept hS.1 hS.2.1).none hP (c_X2_penalties hfl hs0 D cI cB cJ dA bA aA tA d h) q712 v_X2_penalties rfl rfl rfl rfl ⟨(by first | (dsimp only [room_1]; omega) | omega | exact Nat.le_of_ble_eq_true rfl), (by first | (dsimp only [room_1]; omega) | omega | exact Nat.le_of_ble_eq_true rfl)⟩ ⟨(by first | (dsimp only [room_1]; omega) | omega | exact Nat.le_of_ble_eq_true rfl), (by first | (dsimp only [room_1]; omega) | omega | exact Nat.le_of_ble_eq_true rfl)⟩ hl.1 rfl (lv_room (by first | (dsimp only [room_1]; omega) | omega | exact Nat.le_of_ble_eq_true rfl)) dL_law_816 (fun r816 h => ?_)
  refine lv_aload_n hx hb dL_law_819 rfl (lv_at hl 2 rfl) ?_
  refine z_WV (As := []) (rest := [.int r816]) (wr := (wD cI dA bA aA tA d ++ wS cB (fun _ : Nat => mA 10) x ++ [((oA 0), .inl (cJ, 1, .inr (.inl w)))] : va_W)) (wN := (fun u : Int32 × MS => wD cI dA bA aA tA d ++ wM cI mA u.2 ++ wS cB (fun _ : Nat => mA 10) x ++ [((oA 0), .inl (cJ, 1, .inr (.inl w)))])) [22, 23, 24, 25, 26, 27, 28, 29, 30, 31] [0, 1, 2, 3, 4, 5, 6, 7, 8, 9, 10, 11, 12, 13, 14, 15, 16, 17, 18, 19, 20, 21, 32, 33, 34] [0, 1, 2, 3, 4, 5, 6, 7, 8, 9, 10, 11, 12, 13, 14, 15, 16, 17, 18, 19, 20, 21, 25, 26, 27, 28, 29, 30, 31, 32, 33, 34, 22, 23, 24] C hG hA hP hD hS (c_X3_penalties hfl hs0 D cI cB cJ mA mo h) q713 v_X3_penalties rfl rfl ⟨by decide, by decide, by decide⟩ (by decide) (fun _ => rfl) rfl rfl rfl ⟨(by first | (dsimp only [room_1]; omega) | omega | exact Nat.le_of_ble_eq_true rfl), (by first | (dsimp only [room_1]; omega) | omega | exact Nat.le_of_ble_eq_true rfl)⟩ ⟨(by first | (dsimp only [room_1]; omega) | omega | exact Nat.le_of_ble_eq_true rfl), (by first | (dsimp only [room_1]; omega) | omega | exact Nat.le_of_ble_eq_true rfl)⟩ hl.1 rfl (lv_room (by first | (dsimp only [room_1]; omega) | omega | exact Nat.le_of_ble_eq_true rfl)) dL_law_820 (fun u H locs h hP hD hS => ?_)
  obtain ⟨r820, mo820⟩ := u
  have hP : va_P D vwCl (wD cI dA bA aA tA d ++ wM cI mA mo820 ++ wS cB (fun _ : Nat => mA 10) x ++ [((oA 0), .inl (cJ, 1, .inr (.inl w)))]) H := hP
  have hD : va_D (fun q : Nat => s.heap.size ≤ q) (wD cI dA bA aA tA d ++ wM cI mA mo820 ++ wS cB (fun _ : Nat => mA 10) x ++ [((oA 0), .inl (cJ, 1, .inr (.inl w)))]) := hD
  refine lv_icmp_eq (tgt := 1648) hx hb dL_law_823 (by decide) (fun c823 => ?_) (fun c823 => ?_)
  · have h := h.1 c823
    refine lv_iinc (v := (i + 8)) (lv' := [(4, .int (i + 8)), (0, .ref b), (1, .ref (dA 0)), (2, .ref (mA 0)), (3, .ref (oA 0))]) hx hb dL_law_1648 hl (k := 4) rfl (by first | rfl | decide) (by decide) rfl (fun ls hl => ?_)
    refine lv_goto (tgt := 23) hx hb dL_law_1651 (by decide) ?_
    refine W.widen (k := cells + 210) (n := slots + 6594) (by first | (dsimp only [room_1]; omega) | omega | exact Nat.le_of_ble_eq_true rfl) (by first | (dsimp only [room_1]; omega) | omega | exact Nat.le_of_ble_eq_true rfl) ?_
    exact hk _ _ _ _ _ _ _ hP hD hS _ (lv_sub hl [1, 2, 3, 4, 0] rfl) h
  · have h := h.2 c823
    refine lv_iconst (v := 0) hx hb dL_law_826 (by decide) ?_
    exact (show False from h).elim
def wpLc_828 (K : Int32 → DS → MS → SS → (Nat → Int64) → Prop) (L : Nat) (xs : Nat → Int32) (i : Int32) (d : DS) (mo : MS) (x : SS) (w : Nat → Int64) : Prop := vp_in (i + 1) L ∧ (wpL_stateOf (fun r836 d836 w836 => vp_in (i + 1) L ∧ (wpX3_stateOf (fun r848 mo848 => wpX3_thrown (fun r854 => (r854 = r836 → (r836 = 0 → ((lg_cmp (w836 (0 : Int32).toNatClampNeg) r848.toInt64) = 0 → K (i + 8) d836 mo848 x w836) ∧ (¬ (lg_cmp (w836 (0 : Int32).toNatClampNeg) r848.toInt64) = 0 → False)) ∧ (¬ r836 = 0 → K (i + 8) d836 mo848 x w836)) ∧ (¬ r854 = r836 → False)) mo848) mo (xs (i + 1).toNatClampNeg))) d w (xs (i + 1).toNatClampNeg))
set_option maxHeartbeats 4000000 in
set_option maxRecDepth 100000 in
theorem lc_828 {p : Program} {l : Launch} {e : Env} {s : State} {m : MethodId} {below : List Frame} {meth : Method} {c : Code} {b L : Nat} {xs : Nat → Int32} {D : va_G} {cI cB cJ : ClassId} {dA bA aA tA mA oA : Nat → Nat} {Q : State → Prop} {cells slots : Nat} {K : Int32 → DS → MS → SS → (Nat → Int64) → Prop} (hfl : l.stackTraces = false) (hs0 : zS s) (C : zC D (zty cI cB cJ) p s m #[Value.ref b] meth c cL_law RL ret 9) (hA : ∀ q : Nat, s.heap.size ≤ q → (fun q : Nat => s.heap.size ≤ q) q) (hG : zG s (fun q : Nat => s.heap.size ≤ q) s s.heap) (hX : va_X b L xs s s.heap) (hbl : b < s.heap.size) (hcs : cells + 210 ≤ 635979 ∧ slots + 6594 ≤ 7188166)
    (hk : ∀ (i : Int32) (d : DS) (mo : MS) (x : SS) (w : Nat → Int64) (H : Heap) (locs : List Loc), va_P D vwCl (wD cI dA bA aA tA d ++ wM cI mA mo ++ wS cB (fun _ : Nat => mA 10) x ++ [((oA 0), .inl (cJ, 1, .inr (.inl w)))]) H → va_D (fun q : Nat => s.heap.size ≤ q) (wD cI dA bA aA tA d ++ wM cI mA mo ++ wS cB (fun _ : Nat => mA 10) x ++ [((oA 0), .inl (cJ, 1, .inr (.inl w)))]) → va_S (fun q : Nat => s.heap.size ≤ q) s.heap H locs → ∀ ls : Array Slot, lv_has ls 9 [(0, .ref b), (1, .ref (dA 0)), (2, .ref (mA 0)), (3, .ref (oA 0)), (4, .int i)] → K i d mo x w → W p l e room_1 s m #[Value.ref b] below meth c H locs (cells + 210) (slots + 6594) Q (F0 m 23 ls []))
    (i : Int32) (d : DS) (mo : MS) (x : SS) (w : Nat → Int64) (H : Heap) (locs : List Loc) (hP : va_P D vwCl (wD cI dA bA aA tA d ++ wM cI mA mo ++ wS cB (fun _ : Nat => mA 10) x ++ [((oA 0), .inl (cJ, 1, .inr (.inl w)))]) H) (hD : va_D (fun q : Nat => s.heap.size ≤ q) (wD cI dA bA aA tA d ++ wM cI mA mo ++ wS cB (fun _ : Nat => mA 10) x ++ [((oA 0), .inl (cJ, 1, .inr (.inl w)))])) (hS : va_S (fun q : Nat => s.heap.size ≤ q) s.heap H locs) (ls : Array Slot) (hl : lv_has ls 9 [(0, .ref b), (1, .ref (dA 0)), (2, .ref (mA 0)), (3, .ref (oA 0)), (4, .int i)]) (h : wpLc_828 K L xs i d mo x w) : W p l e room_1 s m #[Value.ref b] below meth c H locs cells slots Q (F0 m 828 ls []) := by
  have hx := C.1
  have hb := C.2.1
  have hts := C.2.2.1
  have hown := C.2.2.2.1
  have hml := C.2.2.2.2.2.1
  have hK := C.2.2.2.2.2.2.2
  have hbA : ¬ (fun q : Nat => s.heap.size ≤ q) b := Nat.not_le.mpr hbl
  unfold wpLc_828 at h
  refine lv_aload_n hx hb dL_law_828 rfl (lv_at hl 1 rfl) ?_
  refine lv_aload_n hx hb dL_law_829 rfl (lv_at hl 0 rfl) ?_
  refine lv_iload hx hb dL_law_830 (lv_at hl 4 rfl) ?_
  refine lv_iconst (v := 1) hx hb dL_law_832 (by decide) ?_
  refine lv_iadd hx hb dL_law_833 ?_
  obtain ⟨g9, h⟩ := h
  refine va_sld hx hb hX hbl hbA hS g9 dL_law_834 ?_
  refine lv_aload_n hx hb dL_law_835 rfl (lv_at hl 3 rfl) ?_
  refine z_WH (As := [.ref (dA 0), .int (xs (i + 1).toNatClampNeg), .ref (oA 0)]) (rest := []) (wr := (wM cI mA mo ++ wS cB (fun _ : Nat => mA 10) x : va_W)) (wN := (fun u : Int32 × DS × (Nat → Int64) => wD cI dA bA aA tA u.2.1 ++ wM cI mA mo ++ wS cB (fun _ : Nat => mA 10) x ++ [((oA 0), .inl (cJ, 1, .inr (.inl u.2.2)))])) [0, 1, 2, 3, 4, 5, 6, 7, 8, 9, 10, 11, 12, 13, 14, 15, 16, 17, 18, 19, 20, 21, 34] [22, 23, 24, 25, 26, 27, 28, 29, 30, 31, 32, 33] [12, 13, 14, 15, 16, 17, 18, 19, 20, 21, 22, 23, 24, 25, 26, 27, 28, 29, 30, 31, 32, 33, 0, 1, 2, 3, 4, 5, 6, 7, 8, 9, 10, 11, 34] C hG hA hP hD hS (c_L_stateOf hfl hs0 D cI cB cJ dA bA aA tA oA d w (xs (i + 1).toNatClampNeg) h) q717 v_L_stateOf rfl rfl ⟨by decide, by decide, by decide⟩ (by decide) (fun _ => rfl) rfl ⟨(by first | (dsimp only [room_1]; omega) | omega | exact Nat.le_of_ble_eq_true rfl), (by first | (dsimp only [room_1]; omega) | omega | exact Nat.le_of_ble_eq_true rfl)⟩ ⟨(by first | (dsimp only [room_1]; omega) | omega | exact Nat.le_of_ble_eq_true rfl), (by first | (dsimp only [room_1]; omega) | omega | exact Nat.le_of_ble_eq_true rfl)⟩ hl.1 rfl (lv_room (by first | (dsimp only [room_1]; omega) | omega | exact Nat.le_of_ble_eq_true rfl)) dL_law_836 (fun u H locs h hP hD hS => ?_)
  obtain ⟨r836, d836, w836⟩ := u
  have hP : va_P D vwCl (wD cI dA bA aA tA d836 ++ wM cI mA mo ++ wS cB (fun _ : Nat => mA 10) x ++ [((oA 0), .inl (cJ, 1, .inr (.inl w836)))]) H := hP
  have hD : va_D (fun q : Nat => s.heap.size ≤ q) (wD cI dA bA aA tA d836 ++ wM cI mA mo ++ wS cB (fun _ : Nat => mA 10) x ++ [((oA 0), .inl (cJ, 1, .inr (.inl w836)))]) := hD
  refine lv_istore (lv' := [(5, .int r836), (0, .ref b), (1, .ref (dA 0)), (2, .ref (mA 0)), (3, .ref (oA 0)), (4, .int i)]) hx hb dL_law_839 hl (by decide) rfl (fun ls hl => ?_)
  refine lv_aload_n hx hb dL_law_841 rfl (lv_at hl 3 rfl) ?_
  refine lv_aload_n hx hb dL_law_842 rfl (lv_at hl 1 rfl) ?_
  refine lv_iload hx hb dL_law_843 (lv_at hl 5 rfl) ?_
  refine lv_iconst (v := 1) hx hb dL_law_845 (by decide) ?_
  refine lv_iadd hx hb dL_law_846 ?_
  obtain ⟨g9, h⟩ := h
  refine va_sld hx hb hX hbl hbA hS g9 dL_law_847 ?_
  refine z_WV (As := [.int (xs (i + 1).toNatClampNeg)]) (rest := []) (wr := (wD cI dA bA aA tA d836 ++ wS cB (fun _ : Nat => mA 10) x ++ [((oA 0), .inl (cJ, 1, .inr (.inl w836)))] : va_W)) (wN := (fun u : Int32 × MS => wD cI dA bA aA tA d836 ++ wM cI mA u.2 ++ wS cB (fun _ : Nat => mA 10) x ++ [((oA 0), .inl (cJ, 1, .inr (.inl w836)))])) [22, 23, 24, 25, 26, 27, 28, 29, 30, 31] [0, 1, 2, 3, 4, 5, 6, 7, 8, 9, 10, 11, 12, 13, 14, 15, 16, 17, 18, 19, 20, 21, 32, 33, 34] [0, 1, 2, 3, 4, 5, 6, 7, 8, 9, 10, 11, 12, 13, 14, 15, 16, 17, 18, 19, 20, 21, 25, 26, 27, 28, 29, 30, 31, 32, 33, 34, 22, 23, 24] C hG hA hP hD hS (c_X3_stateOf hfl hs0 D cI cB cJ mA mo (xs (i + 1).toNatClampNeg) h) q718 v_X3_stateOf rfl rfl ⟨by decide, by decide, by decide⟩ (by decide) (fun _ => rfl) rfl rfl rfl ⟨(by first | (dsimp only [room_1]; omega) | omega | exact Nat.le_of_ble_eq_true rfl), (by first | (dsimp only [room_1]; omega) | omega | exact Nat.le_of_ble_eq_true rfl)⟩ ⟨(by first | (dsimp only [room_1]; omega) | omega | exact Nat.le_of_ble_eq_true rfl), (by first | (dsimp only [room_1]; omega) | omega | exact Nat.le_of_ble_eq_true rfl)⟩ hl.1 rfl (lv_room (by first | (dsimp only [room_1]; omega) | omega | exact Nat.le_of_ble_eq_true rfl)) dL_law_848 (fun u H locs h hP hD hS => ?_)
  obtain ⟨r848, mo848⟩ := u
  have hP : va_P D vwCl (wD cI dA bA aA tA d836 ++ wM cI mA mo848 ++ wS cB (fun _ : Nat => mA 10) x ++ [((oA 0), .inl (cJ, 1, .inr (.inl w836)))]) H := hP
  have hD : va_D (fun q : Nat => s.heap.size ≤ q) (wD cI dA bA aA tA d836 ++ wM cI mA mo848 ++ wS cB (fun _ : Nat => mA 10) x ++ [((oA 0), .inl (cJ, 1, .inr (.inl w836)))]) := hD
  refine lv_istore (lv' := [(6, .int r848), (5, .int r836), (0, .ref b), (1, .ref (dA 0)), (2, .ref (mA 0)), (3, .ref (oA 0)), (4, .int i)]) hx hb dL_law_851 hl (by decide) rfl (fun ls hl => ?_)
  refine lv_aload_n hx hb dL_law_853 rfl (lv_at hl 4 rfl) ?_
  refine z_RV (As := []) (rest := []) [22, 23, 24, 25, 26, 27, 28, 29, 30, 31] C (hG.kept hS.1 hS.2.1).none hP (c_X3_thrown hfl hs0 D cI cB cJ mA mo848 h) q650 v_X3_thrown rfl rfl rfl rfl ⟨(by first | (dsimp only [room_1]; omega) | omega | exact Nat.le_of_ble_eq_true rfl), (by first | (dsimp only [room_1]; omega) | omega | exact Nat.le_of_ble_eq_true rfl)⟩ ⟨(by first | (dsimp only [room_1]; omega) | omega | exact Nat.le_of_ble_eq_true rfl), (by first | (dsimp only [room_1]; omega) | omega | exact Nat.le_of_ble_eq_true rfl)⟩ hl.1 rfl (lv_room (by first | (dsimp only [room_1]; omega) | omega | exact Nat.le_of_ble_eq_true rfl)) dL_law_854 (fun r854 h => ?_)
  refine lv_iload hx hb dL_law_857 (lv_at hl 1 rfl) ?_
  refine lv_icmp_eq (tgt := 864) hx hb dL_law_859 (by decide) (fun c859 => ?_) (fun c859 => ?_)
  · have h := h.1 c859
    refine lv_iload hx hb dL_law_864 (lv_at hl 1 rfl) ?_
    refine lv_if_ne (tgt := 881) hx hb dL_law_866 (by decide) (fun c866 => ?_) (fun c866 => ?_)
    · have h := h.2 c866
      refine lv_goto (tgt := 1648) hx hb dL_law_881 (by decide) ?_
      refine lv_iinc (v := (i + 8)) (lv' := [(4, .int (i + 8)), (6, .int r848), (5, .int r836), (0, .ref b), (1, .ref (dA 0)), (2, .ref (mA 0)), (3, .ref (oA 0))]) hx hb dL_law_1648 hl (k := 6) rfl (by first | rfl | decide) (by decide) rfl (fun ls hl => ?_)
      refine lv_goto (tgt := 23) hx hb dL_law_1651 (by decide) ?_
      refine W.widen (k := cells + 210) (n := slots + 6594) (by first | (dsimp only [room_1]; omega) | omega | exact Nat.le_of_ble_eq_true rfl) (by first | (dsimp only [room_1]; omega) | omega | exact Nat.le_of_ble_eq_true rfl) ?_
      exact hk _ _ _ _ _ _ _ hP hD hS _ (lv_sub hl [3, 4, 5, 6, 0] rfl) h
    · have h := h.1 c866
      refine lv_aload_n hx hb dL_law_869 rfl (lv_at hl 5 rfl) ?_
      refine lv_iconst (v := 0) hx hb dL_law_870 (by decide) ?_
      refine va_lald hx hb hK hP 34 2 rfl rfl (show ¬ ((0 : Int32) < 0 ∨ 1 ≤ (0 : Int32).toNatClampNeg) from by decide) dL_law_871 ?_
      refine lv_iload hx hb dL_law_872 (lv_at hl 0 rfl) ?_
      refine lv_i2l hx hb dL_law_874 rfl ?_
      refine W.lcmp hx hb dL_law_875 ?_
      refine lv_if_eq (tgt := 881) hx hb dL_law_876 (by decide) (fun c876 => ?_) (fun c876 => ?_)
      · have h := h.1 c876
        refine lv_goto (tgt := 1648) hx hb dL_law_881 (by decide) ?_
        refine lv_iinc (v := (i + 8)) (lv' := [(4, .int (i + 8)), (6, .int r848), (5, .int r836), (0, .ref b), (1, .ref (dA 0)), (2, .ref (mA 0)), (3, .ref (oA 0))]) hx hb dL_law_1648 hl (k := 6) rfl (by first | rfl | decide) (by decide) rfl (fun ls hl => ?_)
        refine lv_goto (tgt := 23) hx hb dL_law_1651 (by decide) ?_
        refine W.widen (k := cells + 210) (n := slots + 6594) (by first | (dsimp only [room_1]; omega) | omega | exact Nat.le_of_ble_eq_true rfl) (by first | (dsimp only [room_1]; omega) | omega | exact Nat.le_of_ble_eq_true rfl) ?_
        exact hk _ _ _ _ _ _ _ hP hD hS _ (lv_sub hl [3, 4, 5, 6, 0] rfl) h
      · have h := h.2 c876
        refine lv_iconst (v := 0) hx hb dL_law_879 (by decide) ?_
        exact (show False from h).elim
  · have h := h.2 c859
    refine lv_iconst (v := 0) hx hb dL_law_862 (by decide) ?_
    exact (show False from h).elim
def wpLc_884 (K : Int32 → DS → MS → SS → (Nat → Int64) → Prop) (L : Nat) (xs : Nat → Int32) (i : Int32) (d : DS) (mo : MS) (x : SS) (w : Nat → Int64) : Prop := vp_in (i + 1) L ∧ (wpL_daysLeft (fun r892 d892 w892 => vp_in (i + 1) L ∧ (wpX3_daysLeft (fun r904 mo904 => wpX3_thrown (fun r910 => (r910 = r892 → (r892 = 0 → ((lg_cmp (w892 (0 : Int32).toNatClampNeg) r904.toInt64) = 0 → K (i + 8) d892 mo904 x w892) ∧ (¬ (lg_cmp (w892 (0 : Int32).toNatClampNeg) r904.toInt64) = 0 → False)) ∧ (¬ r892 = 0 → K (i + 8) d892 mo904 x w892)) ∧ (¬ r910 = r892 → False)) mo904) mo (xs (i + 1).toNatClampNeg))) d w (xs (i + 1).toNatClampNeg))
set_option maxHeartbeats 4000000 in
set_option maxRecDepth 100000 in
theorem lc_884 {p : Program} {l : Launch} {e : Env} {s : State} {m : MethodId} {below : List Frame} {meth : Method} {c : Code} {b L : Nat} {xs : Nat → Int32} {D : va_G} {cI cB cJ : ClassId} {dA bA aA tA mA oA : Nat → Nat} {Q : State → Prop} {cells slots : Nat} {K : Int32 → DS → MS → SS → (Nat → Int64) → Prop} (hfl : l.stackTraces = false) (hs0 : zS s) (C : zC D (zty cI cB cJ) p s m #[Value.ref b] meth c cL_law RL ret 9) (hA : ∀ q : Nat, s.heap.size ≤ q → (fun q : Nat => s.heap.size ≤ q) q) (hG : zG s (fun q : Nat => s.heap.size ≤ q) s s.heap) (hX : va_X b L xs s s.heap) (hbl : b < s.heap.size) (hcs : cells + 210 ≤ 635979 ∧ slots + 6594 ≤ 7188166)
    (hk : ∀ (i : Int32) (d : DS) (mo : MS) (x : SS) (w : Nat → Int64) (H : Heap) (locs : List Loc), va_P D vwCl (wD cI dA bA aA tA d ++ wM cI mA mo ++ wS cB (fun _ : Nat => mA 10) x ++ [((oA 0), .inl (cJ, 1, .inr (.inl w)))]) H → va_D (fun q : Nat => s.heap.size ≤ q) (wD cI dA bA aA tA d ++ wM cI mA mo ++ wS cB (fun _ : Nat => mA 10) x ++ [((oA 0), .inl (cJ, 1, .inr (.inl w)))]) → va_S (fun q : Nat => s.heap.size ≤ q) s.heap H locs → ∀ ls : Array Slot, lv_has ls 9 [(0, .ref b), (1, .ref (dA 0)), (2, .ref (mA 0)), (3, .ref (oA 0)), (4, .int i)] → K i d mo x w → W p l e room_1 s m #[Value.ref b] below meth c H locs (cells + 210) (slots + 6594) Q (F0 m 23 ls []))
    (i : Int32) (d : DS) (mo : MS) (x : SS) (w : Nat → Int64) (H : Heap) (locs : List Loc) (hP : va_P D vwCl (wD cI dA bA aA tA d ++ wM cI mA mo ++ wS cB (fun _ : Nat => mA 10) x ++ [((oA 0), .inl (cJ, 1, .inr (.inl w)))]) H) (hD : va_D (fun q : Nat => s.heap.size ≤ q) (wD cI dA bA aA tA d ++ wM cI mA mo ++ wS cB (fun _ : Nat => mA 10) x ++ [((oA 0), .inl (cJ, 1, .inr (.inl w)))])) (hS : va_S (fun q : Nat => s.heap.size ≤ q) s.heap H locs) (ls : Array Slot) (hl : lv_has ls 9 [(0, .ref b), (1, .ref (dA 0)), (2, .ref (mA 0)), (3, .ref (oA 0)), (4, .int i)]) (h : wpLc_884 K L xs i d mo x w) : W p l e room_1 s m #[Value.ref b] below meth c H locs cells slots Q (F0 m 884 ls []) := by
  have hx := C.1
  have hb := C.2.1
  have hts := C.2.2.1
  have hown := C.2.2.2.1
  have hml := C.2.2.2.2.2.1
  have hK := C.2.2.2.2.2.2.2
  have hbA : ¬ (fun q : Nat => s.heap.size ≤ q) b := Nat.not_le.mpr hbl
  unfold wpLc_884 at h
  refine lv_aload_n hx hb dL_law_884 rfl (lv_at hl 1 rfl) ?_
  refine lv_aload_n hx hb dL_law_885 rfl (lv_at hl 0 rfl) ?_
  refine lv_iload hx hb dL_law_886 (lv_at hl 4 rfl) ?_
  refine lv_iconst (v := 1) hx hb dL_law_888 (by decide) ?_
  refine lv_iadd hx hb dL_law_889 ?_
  obtain ⟨g9, h⟩ := h
  refine va_sld hx hb hX hbl hbA hS g9 dL_law_890 ?_
  refine lv_aload_n hx hb dL_law_891 rfl (lv_at hl 3 rfl) ?_
  refine z_WH (As := [.ref (dA 0), .int (xs (i + 1).toNatClampNeg), .ref (oA 0)]) (rest := []) (wr := (wM cI mA mo ++ wS cB (fun _ : Nat => mA 10) x : va_W)) (wN := (fun u : Int32 × DS × (Nat → Int64) => wD cI dA bA aA tA u.2.1 ++ wM cI mA mo ++ wS cB (fun _ : Nat => mA 10) x ++ [((oA 0), .inl (cJ, 1, .inr (.inl u.2.2)))])) [0, 1, 2, 3, 4, 5, 6, 7, 8, 9, 10, 11, 12, 13, 14, 15, 16, 17, 18, 19, 20, 21, 34] [22, 23, 24, 25, 26, 27, 28, 29, 30, 31, 32, 33] [12, 13, 14, 15, 16, 17, 18, 19, 20, 21, 22, 23, 24, 25, 26, 27, 28, 29, 30, 31, 32, 33, 0, 1, 2, 3, 4, 5, 6, 7, 8, 9, 10, 11, 34] C hG hA hP hD hS (c_L_daysLeft hfl hs0 D cI cB cJ dA bA aA tA oA d w (xs (i + 1).toNatClampNeg) h) q722 v_L_daysLeft rfl rfl ⟨by decide, by decide, by decide⟩ (by decide) (fun _ => rfl) rfl ⟨(by first | (dsimp only [room_1]; omega) | omega | exact Nat.le_of_ble_eq_true rfl), (by first | (dsimp only [room_1]; omega) | omega | exact Nat.le_of_ble_eq_true rfl)⟩ ⟨(by first | (dsimp only [room_1]; omega) | omega | exact Nat.le_of_ble_eq_true rfl), (by first | (dsimp only [room_1]; omega) | omega | exact Nat.le_of_ble_eq_true rfl)⟩ hl.1 rfl (lv_room (by first | (dsimp only [room_1]; omega) | omega | exact Nat.le_of_ble_eq_true rfl)) dL_law_892 (fun u H locs h hP hD hS => ?_)
  obtain ⟨r892, d892, w892⟩ := u
  have hP : va_P D vwCl (wD cI dA bA aA tA d892 ++ wM cI mA mo ++ wS cB (fun _ : Nat => mA 10) x ++ [((oA 0), .inl (cJ, 1, .inr (.inl w892)))]) H := hP
  have hD : va_D (fun q : Nat => s.heap.size ≤ q) (wD cI dA bA aA tA d892 ++ wM cI mA mo ++ wS cB (fun _ : Nat => mA 10) x ++ [((oA 0), .inl (cJ, 1, .inr (.inl w892)))]) := hD
  refine lv_istore (lv' := [(5, .int r892), (0, .ref b), (1, .ref (dA 0)), (2, .ref (mA 0)), (3, .ref (oA 0)), (4, .int i)]) hx hb dL_law_895 hl (by decide) rfl (fun ls hl => ?_)
  refine lv_aload_n hx hb dL_law_897 rfl (lv_at hl 3 rfl) ?_
  refine lv_aload_n hx hb dL_law_898 rfl (lv_at hl 1 rfl) ?_
  refine lv_iload hx hb dL_law_899 (lv_at hl 5 rfl) ?_
  refine lv_iconst (v := 1) hx hb dL_law_901 (by decide) ?_
  refine lv_iadd hx hb dL_law_902 ?_
  obtain ⟨g9, h⟩ := h
  refine va_sld hx hb hX hbl hbA hS g9 dL_law_903 ?_
  refine z_WV (As := [.int (xs (i + 1).toNatClampNeg)]) (rest := []) (wr := (wD cI dA bA aA tA d892 ++ wS cB (fun _ : Nat => mA 10) x ++ [((oA 0), .inl (cJ, 1, .inr (.inl w892)))] : va_W)) (wN := (fun u : Int32 × MS => wD cI dA bA aA tA d892 ++ wM cI mA u.2 ++ wS cB (fun _ : Nat => mA 10) x ++ [((oA 0), .inl (cJ, 1, .inr (.inl w892)))])) [22, 23, 24, 25, 26, 27, 28, 29, 30, 31] [0, 1, 2, 3, 4, 5, 6, 7, 8, 9, 10, 11, 12, 13, 14, 15, 16, 17, 18, 19, 20, 21, 32, 33, 34] [0, 1, 2, 3, 4, 5, 6, 7, 8, 9, 10, 11, 12, 13, 14, 15, 16, 17, 18, 19, 20, 21, 25, 26, 27, 28, 29, 30, 31, 32, 33, 34, 22, 23, 24] C hG hA hP hD hS (c_X3_daysLeft hfl hs0 D cI cB cJ mA mo (xs (i + 1).toNatClampNeg) h) q723 v_X3_daysLeft rfl rfl ⟨by decide, by decide, by decide⟩ (by decide) (fun _ => rfl) rfl rfl rfl ⟨(by first | (dsimp only [room_1]; omega) | omega | exact Nat.le_of_ble_eq_true rfl), (by first | (dsimp only [room_1]; omega) | omega | exact Nat.le_of_ble_eq_true rfl)⟩ ⟨(by first | (dsimp only [room_1]; omega) | omega | exact Nat.le_of_ble_eq_true rfl), (by first | (dsimp only [room_1]; omega) | omega | exact Nat.le_of_ble_eq_true rfl)⟩ hl.1 rfl (lv_room (by first | (dsimp only [room_1]; omega) | omega | exact Nat.le_of_ble_eq_true rfl)) dL_law_904 (fun u H locs h hP hD hS => ?_)
  obtain ⟨r904, mo904⟩ := u
  have hP : va_P D vwCl (wD cI dA bA aA tA d892 ++ wM cI mA mo904 ++ wS cB (fun _ : Nat => mA 10) x ++ [((oA 0), .inl (cJ, 1, .inr (.inl w892)))]) H := hP
  have hD : va_D (fun q : Nat => s.heap.size ≤ q) (wD cI dA bA aA tA d892 ++ wM cI mA mo904 ++ wS cB (fun _ : Nat => mA 10) x ++ [((oA 0), .inl (cJ, 1, .inr (.inl w892)))]) := hD
  refine lv_istore (lv' := [(6, .int r904), (5, .int r892), (0, .ref b), (1, .ref (dA 0)), (2, .ref (mA 0)), (3, .ref (oA 0)), (4, .int i)]) hx hb dL_law_907 hl (by decide) rfl (fun ls hl => ?_)
  refine lv_aload_n hx hb dL_law_909 rfl (lv_at hl 4 rfl) ?_
  refine z_RV (As := []) (rest := []) [22, 23, 24, 25, 26, 27, 28, 29, 30, 31] C (hG.kept hS.1 hS.2.1).none hP (c_X3_thrown hfl hs0 D cI cB cJ mA mo904 h) q650 v_X3_thrown rfl rfl rfl rfl ⟨(by first | (dsimp only [room_1]; omega) | omega | exact Nat.le_of_ble_eq_true rfl), (by first | (dsimp only [room_1]; omega) | omega | exact Nat.le_of_ble_eq_true rfl)⟩ ⟨(by first | (dsimp only [room_1]; omega) | omega | exact Nat.le_of_ble_eq_true rfl), (by first | (dsimp only [room_1]; omega) | omega | exact Nat.le_of_ble_eq_true rfl)⟩ hl.1 rfl (lv_room (by first | (dsimp only [room_1]; omega) | omega | exact Nat.le_of_ble_eq_true rfl)) dL_law_910 (fun r910 h => ?_)
  refine lv_iload hx hb dL_law_913 (lv_at hl 1 rfl) ?_
  refine lv_icmp_eq (tgt := 920) hx hb dL_law_915 (by decide) (fun c915 => ?_) (fun c915 => ?_)
  · have h := h.1 c915
    refine lv_iload hx hb dL_law_920 (lv_at hl 1 rfl) ?_
    refine lv_if_ne (tgt := 937) hx hb dL_law_922 (by decide) (fun c922 => ?_) (fun c922 => ?_)
    · have h := h.2 c922
      refine lv_goto (tgt := 1648) hx hb dL_law_937 (by decide) ?_
      refine lv_iinc (v := (i + 8)) (lv' := [(4, .int (i + 8)), (6, .int r904), (5, .int r892), (0, .ref b), (1, .ref (dA 0)), (2, .ref (mA 0)), (3, .ref (oA 0))]) hx hb dL_law_1648 hl (k := 6) rfl (by first | rfl | decide) (by decide) rfl (fun ls hl => ?_)
      refine lv_goto (tgt := 23) hx hb dL_law_1651 (by decide) ?_
      refine W.widen (k := cells + 210) (n := slots + 6594) (by first | (dsimp only [room_1]; omega) | omega | exact Nat.le_of_ble_eq_true rfl) (by first | (dsimp only [room_1]; omega) | omega | exact Nat.le_of_ble_eq_true rfl) ?_
      exact hk _ _ _ _ _ _ _ hP hD hS _ (lv_sub hl [3, 4, 5, 6, 0] rfl) h
    · have h := h.1 c922
      refine lv_aload_n hx hb dL_law_925 rfl (lv_at hl 5 rfl) ?_
      refine lv_iconst (v := 0) hx hb dL_law_926 (by decide) ?_
      refine va_lald hx hb hK hP 34 2 rfl rfl (show ¬ ((0 : Int32) < 0 ∨ 1 ≤ (0 : Int32).toNatClampNeg) from by decide) dL_law_927 ?_
      refine lv_iload hx hb dL_law_928 (lv_at hl 0 rfl) ?_
      refine lv_i2l hx hb dL_law_930 rfl ?_
      refine W.lcmp hx hb dL_law_931 ?_
      refine lv_if_eq (tgt := 937) hx hb dL_law_932 (by decide) (fun c932 => ?_) (fun c932 => ?_)
      · have h := h.1 c932
        refine lv_goto (tgt := 1648) hx hb dL_law_937 (by decide) ?_
        refine lv_iinc (v := (i + 8)) (lv' := [(4, .int (i + 8)), (6, .int r904), (5, .int r892), (0, .ref b), (1, .ref (dA 0)), (2, .ref (mA 0)), (3, .ref (oA 0))]) hx hb dL_law_1648 hl (k := 6) rfl (by first | rfl | decide) (by decide) rfl (fun ls hl => ?_)
        refine lv_goto (tgt := 23) hx hb dL_law_1651 (by decide) ?_
        refine W.widen (k := cells + 210) (n := slots + 6594) (by first | (dsimp only [room_1]; omega) | omega | exact Nat.le_of_ble_eq_true rfl) (by first | (dsimp only [room_1]; omega) | omega | exact Nat.le_of_ble_eq_true rfl) ?_
        exact hk _ _ _ _ _ _ _ hP hD hS _ (lv_sub hl [3, 4, 5, 6, 0] rfl) h
      · have h := h.2 c932
        refine lv_iconst (v := 0) hx hb dL_law_935 (by decide) ?_
        exact (show False from h).elim
  · have h := h.2 c915
    refine lv_iconst (v := 0) hx hb dL_law_918 (by decide) ?_
    exact (show False from h).elim
def wpLc_940 (K : Int32 → DS → MS → SS → (Nat → Int64) → Prop) (L : Nat) (xs : Nat → Int32) (i : Int32) (d : DS) (mo : MS) (x : SS) (w : Nat → Int64) : Prop := vp_in (i + 1) L ∧ (wpL_stoppedFor (fun r948 d948 w948 => vp_in (i + 1) L ∧ (wpX3_stoppedFor (fun r960 mo960 => wpX3_thrown (fun r966 => (r966 = r948 → (r948 = 0 → ((lg_cmp (w948 (0 : Int32).toNatClampNeg) r960.toInt64) = 0 → K (i + 8) d948 mo960 x w948) ∧ (¬ (lg_cmp (w948 (0 : Int32).toNatClampNeg) r960.toInt64) = 0 → False)) ∧ (¬ r948 = 0 → K (i + 8) d948 mo960 x w948)) ∧ (¬ r966 = r948 → False)) mo960) mo (xs (i + 1).toNatClampNeg))) d w (xs (i + 1).toNatClampNeg))
set_option maxHeartbeats 4000000 in
set_option maxRecDepth 100000 in
theorem lc_940 {p : Program} {l : Launch} {e : Env} {s : State} {m : MethodId} {below : List Frame} {meth : Method} {c : Code} {b L : Nat} {xs : Nat → Int32} {D : va_G} {cI cB cJ : ClassId} {dA bA aA tA mA oA : Nat → Nat} {Q : State → Prop} {cells slots : Nat} {K : Int32 → DS → MS → SS → (Nat → Int64) → Prop} (hfl : l.stackTraces = false) (hs0 : zS s) (C : zC D (zty cI cB cJ) p s m #[Value.ref b] meth c cL_law RL ret 9) (hA : ∀ q : Nat, s.heap.size ≤ q → (fun q : Nat => s.heap.size ≤ q) q) (hG : zG s (fun q : Nat => s.heap.size ≤ q) s s.heap) (hX : va_X b L xs s s.heap) (hbl : b < s.heap.size) (hcs : cells + 210 ≤ 635979 ∧ slots + 6594 ≤ 7188166)
    (hk : ∀ (i : Int32) (d : DS) (mo : MS) (x : SS) (w : Nat → Int64) (H : Heap) (locs : List Loc), va_P D vwCl (wD cI dA bA aA tA d ++ wM cI mA mo ++ wS cB (fun _ : Nat => mA 10) x ++ [((oA 0), .inl (cJ, 1, .inr (.inl w)))]) H → va_D (fun q : Nat => s.heap.size ≤ q) (wD cI dA bA aA tA d ++ wM cI mA mo ++ wS cB (fun _ : Nat => mA 10) x ++ [((oA 0), .inl (cJ, 1, .inr (.inl w)))]) → va_S (fun q : Nat => s.heap.size ≤ q) s.heap H locs → ∀ ls : Array Slot, lv_has ls 9 [(0, .ref b), (1, .ref (dA 0)), (2, .ref (mA 0)), (3, .ref (oA 0)), (4, .int i)] → K i d mo x w → W p l e room_1 s m #[Value.ref b] below meth c H locs (cells + 210) (slots + 6594) Q (F0 m 23 ls []))
    (i : Int32) (d : DS) (mo : MS) (x : SS) (w : Nat → Int64) (H : Heap) (locs : List Loc) (hP : va_P D vwCl (wD cI dA bA aA tA d ++ wM cI mA mo ++ wS cB (fun _ : Nat => mA 10) x ++ [((oA 0), .inl (cJ, 1, .inr (.inl w)))]) H) (hD : va_D (fun q : Nat => s.heap.size ≤ q) (wD cI dA bA aA tA d ++ wM cI mA mo ++ wS cB (fun _ : Nat => mA 10) x ++ [((oA 0), .inl (cJ, 1, .inr (.inl w)))])) (hS : va_S (fun q : Nat => s.heap.size ≤ q) s.heap H locs) (ls : Array Slot) (hl : lv_has ls 9 [(0, .ref b), (1, .ref (dA 0)), (2, .ref (mA 0)), (3, .ref (oA 0)), (4, .int i)]) (h : wpLc_940 K L xs i d mo x w) : W p l e room_1 s m #[Value.ref b] below meth c H locs cells slots Q (F0 m 940 ls []) := by
  have hx := C.1
  have hb := C.2.1
  have hts := C.2.2.1
  have hown := C.2.2.2.1
  have hml := C.2.2.2.2.2.1
  have hK := C.2.2.2.2.2.2.2
  have hbA : ¬ (fun q : Nat => s.heap.size ≤ q) b := Nat.not_le.mpr hbl
  unfold wpLc_940 at h
  refine lv_aload_n hx hb dL_law_940 rfl (lv_at hl 1 rfl) ?_
  refine lv_aload_n hx hb dL_law_941 rfl (lv_at hl 0 rfl) ?_
  refine lv_iload hx hb dL_law_942 (lv_at hl 4 rfl) ?_
  refine lv_iconst (v := 1) hx hb dL_law_944 (by decide) ?_
  refine lv_iadd hx hb dL_law_945 ?_
  obtain ⟨g9, h⟩ := h
  refine va_sld hx hb hX hbl hbA hS g9 dL_law_946 ?_
  refine lv_aload_n hx hb dL_law_947 rfl (lv_at hl 3 rfl) ?_
  refine z_WH (As := [.ref (dA 0), .int (xs (i + 1).toNatClampNeg), .ref (oA 0)]) (rest := []) (wr := (wM cI mA mo ++ wS cB (fun _ : Nat => mA 10) x : va_W)) (wN := (fun u : Int32 × DS × (Nat → Int64) => wD cI dA bA aA tA u.2.1 ++ wM cI mA mo ++ wS cB (fun _ : Nat => mA 10) x ++ [((oA 0), .inl (cJ, 1, .inr (.inl u.2.2)))])) [0, 1, 2, 3, 4, 5, 6, 7, 8, 9, 10, 11, 12, 13, 14, 15, 16, 17, 18, 19, 20, 21, 34] [22, 23, 24, 25, 26, 27, 28, 29, 30, 31, 32, 33] [12, 13, 14, 15, 16, 17, 18, 19, 20, 21, 22, 23, 24, 25, 26, 27, 28, 29, 30, 31, 32, 33, 0, 1, 2, 3, 4, 5, 6, 7, 8, 9, 10, 11, 34] C hG hA hP hD hS (c_L_stoppedFor hfl hs0 D cI cB cJ dA bA aA tA oA d w (xs (i + 1).toNatClampNeg) h) q727 v_L_stoppedFor rfl rfl ⟨by decide, by decide, by decide⟩ (by decide) (fun _ => rfl) rfl ⟨(by first | (dsimp only [room_1]; omega) | omega | exact Nat.le_of_ble_eq_true rfl), (by first | (dsimp only [room_1]; omega) | omega | exact Nat.le_of_ble_eq_true rfl)⟩ ⟨(by first | (dsimp only [room_1]; omega) | omega | exact Nat.le_of_ble_eq_true rfl), (by first | (dsimp only [room_1]; omega) | omega | exact Nat.le_of_ble_eq_true rfl)⟩ hl.1 rfl (lv_room (by first | (dsimp only [room_1]; omega) | omega | exact Nat.le_of_ble_eq_true rfl)) dL_law_948 (fun u H locs h hP hD hS => ?_)
  obtain ⟨r948, d948, w948⟩ := u
  have hP : va_P D vwCl (wD cI dA bA aA tA d948 ++ wM cI mA mo ++ wS cB (fun _ : Nat => mA 10) x ++ [((oA 0), .inl (cJ, 1, .inr (.inl w948)))]) H := hP
  have hD : va_D (fun q : Nat => s.heap.size ≤ q) (wD cI dA bA aA tA d948 ++ wM cI mA mo ++ wS cB (fun _ : Nat => mA 10) x ++ [((oA 0), .inl (cJ, 1, .inr (.inl w948)))]) := hD
  refine lv_istore (lv' := [(5, .int r948), (0, .ref b), (1, .ref (dA 0)), (2, .ref (mA 0)), (3, .ref (oA 0)), (4, .int i)]) hx hb dL_law_951 hl (by decide) rfl (fun ls hl => ?_)
  refine lv_aload_n hx hb dL_law_953 rfl (lv_at hl 3 rfl) ?_
  refine lv_aload_n hx hb dL_law_954 rfl (lv_at hl 1 rfl) ?_
  refine lv_iload hx hb dL_law_955 (lv_at hl 5 rfl) ?_
  refine lv_iconst (v := 1) hx hb dL_law_957 (by decide) ?_
  refine lv_iadd hx hb dL_law_958 ?_
  obtain ⟨g9, h⟩ := h
  refine va_sld hx hb hX hbl hbA hS g9 dL_law_959 ?_
  refine z_WV (As := [.int (xs (i + 1).toNatClampNeg)]) (rest := []) (wr := (wD cI dA bA aA tA d948 ++ wS cB (fun _ : Nat => mA 10) x ++ [((oA 0), .inl (cJ, 1, .inr (.inl w948)))] : va_W)) (wN := (fun u : Int32 × MS => wD cI dA bA aA tA d948 ++ wM cI mA u.2 ++ wS cB (fun _ : Nat => mA 10) x ++ [((oA 0), .inl (cJ, 1, .inr (.inl w948)))])) [22, 23, 24, 25, 26, 27, 28, 29, 30, 31] [0, 1, 2, 3, 4, 5, 6, 7, 8, 9, 10, 11, 12, 13, 14, 15, 16, 17, 18, 19, 20, 21, 32, 33, 34] [0, 1, 2, 3, 4, 5, 6, 7, 8, 9, 10, 11, 12, 13, 14, 15, 16, 17, 18, 19, 20, 21, 25, 26, 27, 28, 29, 30, 31, 32, 33, 34, 22, 23, 24] C hG hA hP hD hS (c_X3_stoppedFor hfl hs0 D cI cB cJ mA mo (xs (i + 1).toNatClampNeg) h) q728 v_X3_stoppedFor rfl rfl ⟨by decide, by decide, by decide⟩ (by decide) (fun _ => rfl) rfl rfl rfl ⟨(by first | (dsimp only [room_1]; omega) | omega | exact Nat.le_of_ble_eq_true rfl), (by first | (dsimp only [room_1]; omega) | omega | exact Nat.le_of_ble_eq_true rfl)⟩ ⟨(by first | (dsimp only [room_1]; omega) | omega | exact Nat.le_of_ble_eq_true rfl), (by first | (dsimp only [room_1]; omega) | omega | exact Nat.le_of_ble_eq_true rfl)⟩ hl.1 rfl (lv_room (by first | (dsimp only [room_1]; omega) | omega | exact Nat.le_of_ble_eq_true rfl)) dL_law_960 (fun u H locs h hP hD hS => ?_)
  obtain ⟨r960, mo960⟩ := u
  have hP : va_P D vwCl (wD cI dA bA aA tA d948 ++ wM cI mA mo960 ++ wS cB (fun _ : Nat => mA 10) x ++ [((oA 0), .inl (cJ, 1, .inr (.inl w948)))]) H := hP
  have hD : va_D (fun q : Nat => s.heap.size ≤ q) (wD cI dA bA aA tA d948 ++ wM cI mA mo960 ++ wS cB (fun _ : Nat => mA 10) x ++ [((oA 0), .inl (cJ, 1, .inr (.inl w948)))]) := hD
  refine lv_istore (lv' := [(6, .int r960), (5, .int r948), (0, .ref b), (1, .ref (dA 0)), (2, .ref (mA 0)), (3, .ref (oA 0)), (4, .int i)]) hx hb dL_law_963 hl (by decide) rfl (fun ls hl => ?_)
  refine lv_aload_n hx hb dL_law_965 rfl (lv_at hl 4 rfl) ?_
  refine z_RV (As := []) (rest := []) [22, 23, 24, 25, 26, 27, 28, 29, 30, 31] C (hG.kept hS.1 hS.2.1).none hP (c_X3_thrown hfl hs0 D cI cB cJ mA mo960 h) q650 v_X3_thrown rfl rfl rfl rfl ⟨(by first | (dsimp only [room_1]; omega) | omega | exact Nat.le_of_ble_eq_true rfl), (by first | (dsimp only [room_1]; omega) | omega | exact Nat.le_of_ble_eq_true rfl)⟩ ⟨(by first | (dsimp only [room_1]; omega) | omega | exact Nat.le_of_ble_eq_true rfl), (by first | (dsimp only [room_1]; omega) | omega | exact Nat.le_of_ble_eq_true rfl)⟩ hl.1 rfl (lv_room (by first | (dsimp only [room_1]; omega) | omega | exact Nat.le_of_ble_eq_true rfl)) dL_law_966 (fun r966 h => ?_)
  refine lv_iload hx hb dL_law_969 (lv_at hl 1 rfl) ?_
  refine lv_icmp_eq (tgt := 976) hx hb dL_law_971 (by decide) (fun c971 => ?_) (fun c971 => ?_)
  · have h := h.1 c971
    refine lv_iload hx hb dL_law_976 (lv_at hl 1 rfl) ?_
    refine lv_if_ne (tgt := 993) hx hb dL_law_978 (by decide) (fun c978 => ?_) (fun c978 => ?_)
    · have h := h.2 c978
      refine lv_goto (tgt := 1648) hx hb dL_law_993 (by decide) ?_
      refine lv_iinc (v := (i + 8)) (lv' := [(4, .int (i + 8)), (6, .int r960), (5, .int r948), (0, .ref b), (1, .ref (dA 0)), (2, .ref (mA 0)), (3, .ref (oA 0))]) hx hb dL_law_1648 hl (k := 6) rfl (by first | rfl | decide) (by decide) rfl (fun ls hl => ?_)
      refine lv_goto (tgt := 23) hx hb dL_law_1651 (by decide) ?_
      refine W.widen (k := cells + 210) (n := slots + 6594) (by first | (dsimp only [room_1]; omega) | omega | exact Nat.le_of_ble_eq_true rfl) (by first | (dsimp only [room_1]; omega) | omega | exact Nat.le_of_ble_eq_true rfl) ?_
      exact hk _ _ _ _ _ _ _ hP hD hS _ (lv_sub hl [3, 4, 5, 6, 0] rfl) h
    · have h := h.1 c978
      refine lv_aload_n hx hb dL_law_981 rfl (lv_at hl 5 rfl) ?_
      refine lv_iconst (v := 0) hx hb dL_law_982 (by decide) ?_
      refine va_lald hx hb hK hP 34 2 rfl rfl (show ¬ ((0 : Int32) < 0 ∨ 1 ≤ (0 : Int32).toNatClampNeg) from by decide) dL_law_983 ?_
      refine lv_iload hx hb dL_law_984 (lv_at hl 0 rfl) ?_
      refine lv_i2l hx hb dL_law_986 rfl ?_
      refine W.lcmp hx hb dL_law_987 ?_
      refine lv_if_eq (tgt := 993) hx hb dL_law_988 (by decide) (fun c988 => ?_) (fun c988 => ?_)
      · have h := h.1 c988
        refine lv_goto (tgt := 1648) hx hb dL_law_993 (by decide) ?_
        refine lv_iinc (v := (i + 8)) (lv' := [(4, .int (i + 8)), (6, .int r960), (5, .int r948), (0, .ref b), (1, .ref (dA 0)), (2, .ref (mA 0)), (3, .ref (oA 0))]) hx hb dL_law_1648 hl (k := 6) rfl (by first | rfl | decide) (by decide) rfl (fun ls hl => ?_)
        refine lv_goto (tgt := 23) hx hb dL_law_1651 (by decide) ?_
        refine W.widen (k := cells + 210) (n := slots + 6594) (by first | (dsimp only [room_1]; omega) | omega | exact Nat.le_of_ble_eq_true rfl) (by first | (dsimp only [room_1]; omega) | omega | exact Nat.le_of_ble_eq_true rfl) ?_
        exact hk _ _ _ _ _ _ _ hP hD hS _ (lv_sub hl [3, 4, 5, 6, 0] rfl) h
      · have h := h.2 c988
        refine lv_iconst (v := 0) hx hb dL_law_991 (by decide) ?_
        exact (show False from h).elim
  · have h := h.2 c971
    refine lv_iconst (v := 0) hx hb dL_law_974 (by decide) ?_
    exact (show False from h).elim
def wpLc_996 (K : Int32 → DS → MS → SS → (Nat → Int64) → Prop) (L : Nat) (xs : Nat → Int32) (i : Int32) (d : DS) (mo : MS) (x : SS) (w : Nat → Int64) : Prop := vp_in (i + 1) L ∧ (wpL_priceOf (fun r1004 d1004 w1004 => vp_in (i + 1) L ∧ (wpX3_priceOf (fun r1016 mo1016 => wpX3_thrown (fun r1022 => (r1022 = r1004 → (r1004 = 0 → ((lg_cmp (w1004 (0 : Int32).toNatClampNeg) r1016.toInt64) = 0 → K (i + 8) d1004 mo1016 x w1004) ∧ (¬ (lg_cmp (w1004 (0 : Int32).toNatClampNeg) r1016.toInt64) = 0 → False)) ∧ (¬ r1004 = 0 → K (i + 8) d1004 mo1016 x w1004)) ∧ (¬ r1022 = r1004 → False)) mo1016) mo (xs (i + 1).toNatClampNeg))) d w (xs (i + 1).toNatClampNeg))
set_option maxHeartbeats 4000000 in
set_option maxRecDepth 100000 in
theorem lc_996 {p : Program} {l : Launch} {e : Env} {s : State} {m : MethodId} {below : List Frame} {meth : Method} {c : Code} {b L : Nat} {xs : Nat → Int32} {D : va_G} {cI cB cJ : ClassId} {dA bA aA tA mA oA : Nat → Nat} {Q : State → Prop} {cells slots : Nat} {K : Int32 → DS → MS → SS → (Nat → Int64) → Prop} (hfl : l.stackTraces = false) (hs0 : zS s) (C : zC D (zty cI cB cJ) p s m #[Value.ref b] meth c cL_law RL ret 9) (hA : ∀ q : Nat, s.heap.size ≤ q → (fun q : Nat => s.heap.size ≤ q) q) (hG : zG s (fun q : Nat => s.heap.size ≤ q) s s.heap) (hX : va_X b L xs s s.heap) (hbl : b < s.heap.size) (hcs : cells + 210 ≤ 635979 ∧ slots + 6594 ≤ 7188166)
    (hk : ∀ (i : Int32) (d : DS) (mo : MS) (x : SS) (w : Nat → Int64) (H : Heap) (locs : List Loc), va_P D vwCl (wD cI dA bA aA tA d ++ wM cI mA mo ++ wS cB (fun _ : Nat => mA 10) x ++ [((oA 0), .inl (cJ, 1, .inr (.inl w)))]) H → va_D (fun q : Nat => s.heap.size ≤ q) (wD cI dA bA aA tA d ++ wM cI mA mo ++ wS cB (fun _ : Nat => mA 10) x ++ [((oA 0), .inl (cJ, 1, .inr (.inl w)))]) → va_S (fun q : Nat => s.heap.size ≤ q) s.heap H locs → ∀ ls : Array Slot, lv_has ls 9 [(0, .ref b), (1, .ref (dA 0)), (2, .ref (mA 0)), (3, .ref (oA 0)), (4, .int i)] → K i d mo x w → W p l e room_1 s m #[Value.ref b] below meth c H locs (cells + 210) (slots + 6594) Q (F0 m 23 ls []))
    (i : Int32) (d : DS) (mo : MS) (x : SS) (w : Nat → Int64) (H : Heap) (locs : List Loc) (hP : va_P D vwCl (wD cI dA bA aA tA d ++ wM cI mA mo ++ wS cB (fun _ : Nat => mA 10) x ++ [((oA 0), .inl (cJ, 1, .inr (.inl w)))]) H) (hD : va_D (fun q : Nat => s.heap.size ≤ q) (wD cI dA bA aA tA d ++ wM cI mA mo ++ wS cB (fun _ : Nat => mA 10) x ++ [((oA 0), .inl (cJ, 1, .inr (.inl w)))])) (hS : va_S (fun q : Nat => s.heap.size ≤ q) s.heap H locs) (ls : Array Slot) (hl : lv_has ls 9 [(0, .ref b), (1, .ref (dA 0)), (2, .ref (mA 0)), (3, .ref (oA 0)), (4, .int i)]) (h : wpLc_996 K L xs i d mo x w) : W p l e room_1 s m #[Value.ref b] below meth c H locs cells slots Q (F0 m 996 ls []) := by
  have hx := C.1
  have hb := C.2.1
  have hts := C.2.2.1
  have hown := C.2.2.2.1
  have hml := C.2.2.2.2.2.1
  have hK := C.2.2.2.2.2.2.2
  have hbA : ¬ (fun q : Nat => s.heap.size ≤ q) b := Nat.not_le.mpr hbl
  unfold wpLc_996 at h
  refine lv_aload_n hx hb dL_law_996 rfl (lv_at hl 1 rfl) ?_
  refine lv_aload_n hx hb dL_law_997 rfl (lv_at hl 0 rfl) ?_
  refine lv_iload hx hb dL_law_998 (lv_at hl 4 rfl) ?_
  refine lv_iconst (v := 1) hx hb dL_law_1000 (by decide) ?_
  refine lv_iadd hx hb dL_law_1001 ?_
  obtain ⟨g9, h⟩ := h
  refine va_sld hx hb hX hbl hbA hS g9 dL_law_1002 ?_
  refine lv_aload_n hx hb dL_law_1003 rfl (lv_at hl 3 rfl) ?_
  refine z_WH (As := [.ref (dA 0), .int (xs (i + 1).toNatClampNeg), .ref (oA 0)]) (rest := []) (wr := (wM cI mA mo ++ wS cB (fun _ : Nat => mA 10) x : va_W)) (wN := (fun u : Int32 × DS × (Nat → Int64) => wD cI dA bA aA tA u.2.1 ++ wM cI mA mo ++ wS cB (fun _ : Nat => mA 10) x ++ [((oA 0), .inl (cJ, 1, .inr (.inl u.2.2)))])) [0, 1, 2, 3, 4, 5, 6, 7, 8, 9, 10, 11, 12, 13, 14, 15, 16, 17, 18, 19, 20, 21, 34] [22, 23, 24, 25, 26, 27, 28, 29, 30, 31, 32, 33] [12, 13, 14, 15, 16, 17, 18, 19, 20, 21, 22, 23, 24, 25, 26, 27, 28, 29, 30, 31, 32, 33, 0, 1, 2, 3, 4, 5, 6, 7, 8, 9, 10, 11, 34] C hG hA hP hD hS (c_L_priceOf hfl hs0 D cI cB cJ dA bA aA tA oA d w (xs (i + 1).toNatClampNeg) h) q732 v_L_priceOf rfl rfl ⟨by decide, by decide, by decide⟩ (by decide) (fun _ => rfl) rfl ⟨(by first | (dsimp only [room_1]; omega) | omega | exact Nat.le_of_ble_eq_true rfl), (by first | (dsimp only [room_1]; omega) | omega | exact Nat.le_of_ble_eq_true rfl)⟩ ⟨(by first | (dsimp only [room_1]; omega) | omega | exact Nat.le_of_ble_eq_true rfl), (by first | (dsimp only [room_1]; omega) | omega | exact Nat.le_of_ble_eq_true rfl)⟩ hl.1 rfl (lv_room (by first | (dsimp only [room_1]; omega) | omega | exact Nat.le_of_ble_eq_true rfl)) dL_law_1004 (fun u H locs h hP hD hS => ?_)
  obtain ⟨r1004, d1004, w1004⟩ := u
  have hP : va_P D vwCl (wD cI dA bA aA tA d1004 ++ wM cI mA mo ++ wS cB (fun _ : Nat => mA 10) x ++ [((oA 0), .inl (cJ, 1, .inr (.inl w1004)))]) H := hP
  have hD : va_D (fun q : Nat => s.heap.size ≤ q) (wD cI dA bA aA tA d1004 ++ wM cI mA mo ++ wS cB (fun _ : Nat => mA 10) x ++ [((oA 0), .inl (cJ, 1, .inr (.inl w1004)))]) := hD
  refine lv_istore (lv' := [(5, .int r1004), (0, .ref b), (1, .ref (dA 0)), (2, .ref (mA 0)), (3, .ref (oA 0)), (4, .int i)]) hx hb dL_law_1007 hl (by decide) rfl (fun ls hl => ?_)
  refine lv_aload_n hx hb dL_law_1009 rfl (lv_at hl 3 rfl) ?_
  refine lv_aload_n hx hb dL_law_1010 rfl (lv_at hl 1 rfl) ?_
  refine lv_iload hx hb dL_law_1011 (lv_at hl 5 rfl) ?_
  refine lv_iconst (v := 1) hx hb dL_law_1013 (by decide) ?_
  refine lv_iadd hx hb dL_law_1014 ?_
  obtain ⟨g9, h⟩ := h
  refine va_sld hx hb hX hbl hbA hS g9 dL_law_1015 ?_
  refine z_WV (As := [.int (xs (i + 1).toNatClampNeg)]) (rest := []) (wr := (wD cI dA bA aA tA d1004 ++ wS cB (fun _ : Nat => mA 10) x ++ [((oA 0), .inl (cJ, 1, .inr (.inl w1004)))] : va_W)) (wN := (fun u : Int32 × MS => wD cI dA bA aA tA d1004 ++ wM cI mA u.2 ++ wS cB (fun _ : Nat => mA 10) x ++ [((oA 0), .inl (cJ, 1, .inr (.inl w1004)))])) [22, 23, 24, 25, 26, 27, 28, 29, 30, 31] [0, 1, 2, 3, 4, 5, 6, 7, 8, 9, 10, 11, 12, 13, 14, 15, 16, 17, 18, 19, 20, 21, 32, 33, 34] [0, 1, 2, 3, 4, 5, 6, 7, 8, 9, 10, 11, 12, 13, 14, 15, 16, 17, 18, 19, 20, 21, 25, 26, 27, 28, 29, 30, 31, 32, 33, 34, 22, 23, 24] C hG hA hP hD hS (c_X3_priceOf hfl hs0 D cI cB cJ mA mo (xs (i + 1).toNatClampNeg) h) q733 v_X3_priceOf rfl rfl ⟨by decide, by decide, by decide⟩ (by decide) (fun _ => rfl) rfl rfl rfl ⟨(by first | (dsimp only [room_1]; omega) | omega | exact Nat.le_of_ble_eq_true rfl), (by first | (dsimp only [room_1]; omega) | omega | exact Nat.le_of_ble_eq_true rfl)⟩ ⟨(by first | (dsimp only [room_1]; omega) | omega | exact Nat.le_of_ble_eq_true rfl), (by first | (dsimp only [room_1]; omega) | omega | exact Nat.le_of_ble_eq_true rfl)⟩ hl.1 rfl (lv_room (by first | (dsimp only [room_1]; omega) | omega | exact Nat.le_of_ble_eq_true rfl)) dL_law_1016 (fun u H locs h hP hD hS => ?_)
  obtain ⟨r1016, mo1016⟩ := u
  have hP : va_P D vwCl (wD cI dA bA aA tA d1004 ++ wM cI mA mo1016 ++ wS cB (fun _ : Nat => mA 10) x ++ [((oA 0), .inl (cJ, 1, .inr (.inl w1004)))]) H := hP
  have hD : va_D (fun q : Nat => s.heap.size ≤ q) (wD cI dA bA aA tA d1004 ++ wM cI mA mo1016 ++ wS cB (fun _ : Nat => mA 10) x ++ [((oA 0), .inl (cJ, 1, .inr (.inl w1004)))]) := hD
  refine lv_istore (lv' := [(6, .int r1016), (5, .int r1004), (0, .ref b), (1, .ref (dA 0)), (2, .ref (mA 0)), (3, .ref (oA 0)), (4, .int i)]) hx hb dL_law_1019 hl (by decide) rfl (fun ls hl => ?_)
  refine lv_aload_n hx hb dL_law_1021 rfl (lv_at hl 4 rfl) ?_
  refine z_RV (As := []) (rest := []) [22, 23, 24, 25, 26, 27, 28, 29, 30, 31] C (hG.kept hS.1 hS.2.1).none hP (c_X3_thrown hfl hs0 D cI cB cJ mA mo1016 h) q650 v_X3_thrown rfl rfl rfl rfl ⟨(by first | (dsimp only [room_1]; omega) | omega | exact Nat.le_of_ble_eq_true rfl), (by first | (dsimp only [room_1]; omega) | omega | exact Nat.le_of_ble_eq_true rfl)⟩ ⟨(by first | (dsimp only [room_1]; omega) | omega | exact Nat.le_of_ble_eq_true rfl), (by first | (dsimp only [room_1]; omega) | omega | exact Nat.le_of_ble_eq_true rfl)⟩ hl.1 rfl (lv_room (by first | (dsimp only [room_1]; omega) | omega | exact Nat.le_of_ble_eq_true rfl)) dL_law_1022 (fun r1022 h => ?_)
  refine lv_iload hx hb dL_law_1025 (lv_at hl 1 rfl) ?_
  refine lv_icmp_eq (tgt := 1032) hx hb dL_law_1027 (by decide) (fun c1027 => ?_) (fun c1027 => ?_)
  · have h := h.1 c1027
    refine lv_iload hx hb dL_law_1032 (lv_at hl 1 rfl) ?_
    refine lv_if_ne (tgt := 1049) hx hb dL_law_1034 (by decide) (fun c1034 => ?_) (fun c1034 => ?_)
    · have h := h.2 c1034
      refine lv_goto (tgt := 1648) hx hb dL_law_1049 (by decide) ?_
      refine lv_iinc (v := (i + 8)) (lv' := [(4, .int (i + 8)), (6, .int r1016), (5, .int r1004), (0, .ref b), (1, .ref (dA 0)), (2, .ref (mA 0)), (3, .ref (oA 0))]) hx hb dL_law_1648 hl (k := 6) rfl (by first | rfl | decide) (by decide) rfl (fun ls hl => ?_)
      refine lv_goto (tgt := 23) hx hb dL_law_1651 (by decide) ?_
      refine W.widen (k := cells + 210) (n := slots + 6594) (by first | (dsimp only [room_1]; omega) | omega | exact Nat.le_of_ble_eq_true rfl) (by first | (dsimp only [room_1]; omega) | omega | exact Nat.le_of_ble_eq_true rfl) ?_
      exact hk _ _ _ _ _ _ _ hP hD hS _ (lv_sub hl [3, 4, 5, 6, 0] rfl) h
    · have h := h.1 c1034
      refine lv_aload_n hx hb dL_law_1037 rfl (lv_at hl 5 rfl) ?_
      refine lv_iconst (v := 0) hx hb dL_law_1038 (by decide) ?_
      refine va_lald hx hb hK hP 34 2 rfl rfl (show ¬ ((0 : Int32) < 0 ∨ 1 ≤ (0 : Int32).toNatClampNeg) from by decide) dL_law_1039 ?_
      refine lv_iload hx hb dL_law_1040 (lv_at hl 0 rfl) ?_
      refine lv_i2l hx hb dL_law_1042 rfl ?_
      refine W.lcmp hx hb dL_law_1043 ?_
      refine lv_if_eq (tgt := 1049) hx hb dL_law_1044 (by decide) (fun c1044 => ?_) (fun c1044 => ?_)
      · have h := h.1 c1044
        refine lv_goto (tgt := 1648) hx hb dL_law_1049 (by decide) ?_
        refine lv_iinc (v := (i + 8)) (lv' := [(4, .int (i + 8)), (6, .int r1016), (5, .int r1004), (0, .ref b), (1, .ref (dA 0)), (2, .ref (mA 0)), (3, .ref (oA 0))]) hx hb dL_law_1648 hl (k := 6) rfl (by first | rfl | decide) (by decide) rfl (fun ls hl => ?_)
        refine lv_goto (tgt := 23) hx hb dL_law_1651 (by decide) ?_
        refine W.widen (k := cells + 210) (n := slots + 6594) (by first | (dsimp only [room_1]; omega) | omega | exact Nat.le_of_ble_eq_true rfl) (by first | (dsimp only [room_1]; omega) | omega | exact Nat.le_of_ble_eq_true rfl) ?_
        exact hk _ _ _ _ _ _ _ hP hD hS _ (lv_sub hl [3, 4, 5, 6, 0] rfl) h
      · have h := h.2 c1044
        refine lv_iconst (v := 0) hx hb dL_law_1047 (by decide) ?_
        exact (show False from h).elim
  · have h := h.2 c1027
    refine lv_iconst (v := 0) hx hb dL_law_1030 (by decide) ?_
    exact (show False from h).elim
def wpLc_1052 (K : Int32 → DS → MS → SS → (Nat → Int64) → Prop) (L : Nat) (xs : Nat → Int32) (i : Int32) (d : DS) (mo : MS) (x : SS) (w : Nat → Int64) : Prop := vp_in (i + 1) L ∧ (wpL_hanging (fun r1060 d1060 w1060 => vp_in (i + 1) L ∧ (wpX3_hanging (fun r1072 mo1072 => wpX3_thrown (fun r1078 => (r1078 = r1060 → (r1060 = 0 → ((lg_cmp (w1060 (0 : Int32).toNatClampNeg) r1072.toInt64) = 0 → K (i + 8) d1060 mo1072 x w1060) ∧ (¬ (lg_cmp (w1060 (0 : Int32).toNatClampNeg) r1072.toInt64) = 0 → False)) ∧ (¬ r1060 = 0 → K (i + 8) d1060 mo1072 x w1060)) ∧ (¬ r1078 = r1060 → False)) mo1072) mo (xs (i + 1).toNatClampNeg))) d w (xs (i + 1).toNatClampNeg))
set_option maxHeartbeats 4000000 in
set_option maxRecDepth 100000 in
theorem lc_1052 {p : Program} {l : Launch} {e : Env} {s : State} {m : MethodId} {below : List Frame} {meth : Method} {c : Code} {b L : Nat} {xs : Nat → Int32} {D : va_G} {cI cB cJ : ClassId} {dA bA aA tA mA oA : Nat → Nat} {Q : State → Prop} {cells slots : Nat} {K : Int32 → DS → MS → SS → (Nat → Int64) → Prop} (hfl : l.stackTraces = false) (hs0 : zS s) (C : zC D (zty cI cB cJ) p s m #[Value.ref b] meth c cL_law RL ret 9) (hA : ∀ q : Nat, s.heap.size ≤ q → (fun q : Nat => s.heap.size ≤ q) q) (hG : zG s (fun q : Nat => s.heap.size ≤ q) s s.heap) (hX : va_X b L xs s s.heap) (hbl : b < s.heap.size) (hcs : cells + 210 ≤ 635979 ∧ slots + 6594 ≤ 7188166)
    (hk : ∀ (i : Int32) (d : DS) (mo : MS) (x : SS) (w : Nat → Int64) (H : Heap) (locs : List Loc), va_P D vwCl (wD cI dA bA aA tA d ++ wM cI mA mo ++ wS cB (fun _ : Nat => mA 10) x ++ [((oA 0), .inl (cJ, 1, .inr (.inl w)))]) H → va_D (fun q : Nat => s.heap.size ≤ q) (wD cI dA bA aA tA d ++ wM cI mA mo ++ wS cB (fun _ : Nat => mA 10) x ++ [((oA 0), .inl (cJ, 1, .inr (.inl w)))]) → va_S (fun q : Nat => s.heap.size ≤ q) s.heap H locs → ∀ ls : Array Slot, lv_has ls 9 [(0, .ref b), (1, .ref (dA 0)), (2, .ref (mA 0)), (3, .ref (oA 0)), (4, .int i)] → K i d mo x w → W p l e room_1 s m #[Value.ref b] below meth c H locs (cells + 210) (slots + 6594) Q (F0 m 23 ls []))
    (i : Int32) (d : DS) (mo : MS) (x : SS) (w : Nat → Int64) (H : Heap) (locs : List Loc) (hP : va_P D vwCl (wD cI dA bA aA tA d ++ wM cI mA mo ++ wS cB (fun _ : Nat => mA 10) x ++ [((oA 0), .inl (cJ, 1, .inr (.inl w)))]) H) (hD : va_D (fun q : Nat => s.heap.size ≤ q) (wD cI dA bA aA tA d ++ wM cI mA mo ++ wS cB (fun _ : Nat => mA 10) x ++ [((oA 0), .inl (cJ, 1, .inr (.inl w)))])) (hS : va_S (fun q : Nat => s.heap.size ≤ q) s.heap H locs) (ls : Array Slot) (hl : lv_has ls 9 [(0, .ref b), (1, .ref (dA 0)), (2, .ref (mA 0)), (3, .ref (oA 0)), (4, .int i)]) (h : wpLc_1052 K L xs i d mo x w) : W p l e room_1 s m #[Value.ref b] below meth c H locs cells slots Q (F0 m 1052 ls []) := by
  have hx := C.1
  have hb := C.2.1
  have hts := C.2.2.1
  have hown := C.2.2.2.1
  have hml := C.2.2.2.2.2.1
  have hK := C.2.2.2.2.2.2.2
  have hbA : ¬ (fun q : Nat => s.heap.size ≤ q) b := Nat.not_le.mpr hbl
  unfold wpLc_1052 at h
  refine lv_aload_n hx hb dL_law_1052 rfl (lv_at hl 1 rfl) ?_
  refine lv_aload_n hx hb dL_law_1053 rfl (lv_at hl 0 rfl) ?_
  refine lv_iload hx hb dL_law_1054 (lv_at hl 4 rfl) ?_
  refine lv_iconst (v := 1) hx hb dL_law_1056 (by decide) ?_
  refine lv_iadd hx hb dL_law_1057 ?_
  obtain ⟨g9, h⟩ := h
  refine va_sld hx hb hX hbl hbA hS g9 dL_law_1058 ?_
  refine lv_aload_n hx hb dL_law_1059 rfl (lv_at hl 3 rfl) ?_
  refine z_WH (As := [.ref (dA 0), .int (xs (i + 1).toNatClampNeg), .ref (oA 0)]) (rest := []) (wr := (wM cI mA mo ++ wS cB (fun _ : Nat => mA 10) x : va_W)) (wN := (fun u : Int32 × DS × (Nat → Int64) => wD cI dA bA aA tA u.2.1 ++ wM cI mA mo ++ wS cB (fun _ : Nat => mA 10) x ++ [((oA 0), .inl (cJ, 1, .inr (.inl u.2.2)))])) [0, 1, 2, 3, 4, 5, 6, 7, 8, 9, 10, 11, 12, 13, 14, 15, 16, 17, 18, 19, 20, 21, 34] [22, 23, 24, 25, 26, 27, 28, 29, 30, 31, 32, 33] [12, 13, 14, 15, 16, 17, 18, 19, 20, 21, 22, 23, 24, 25, 26, 27, 28, 29, 30, 31, 32, 33, 0, 1, 2, 3, 4, 5, 6, 7, 8, 9, 10, 11, 34] C hG hA hP hD hS (c_L_hanging hfl hs0 D cI cB cJ dA bA aA tA oA d w (xs (i + 1).toNatClampNeg) h) q737 v_L_hanging rfl rfl ⟨by decide, by decide, by decide⟩ (by decide) (fun _ => rfl) rfl ⟨(by first | (dsimp only [room_1]; omega) | omega | exact Nat.le_of_ble_eq_true rfl), (by first | (dsimp only [room_1]; omega) | omega | exact Nat.le_of_ble_eq_true rfl)⟩ ⟨(by first | (dsimp only [room_1]; omega) | omega | exact Nat.le_of_ble_eq_true rfl), (by first | (dsimp only [room_1]; omega) | omega | exact Nat.le_of_ble_eq_true rfl)⟩ hl.1 rfl (lv_room (by first | (dsimp only [room_1]; omega) | omega | exact Nat.le_of_ble_eq_true rfl)) dL_law_1060 (fun u H locs h hP hD hS => ?_)
  obtain ⟨r1060, d1060, w1060⟩ := u
  have hP : va_P D vwCl (wD cI dA bA aA tA d1060 ++ wM cI mA mo ++ wS cB (fun _ : Nat => mA 10) x ++ [((oA 0), .inl (cJ, 1, .inr (.inl w1060)))]) H := hP
  have hD : va_D (fun q : Nat => s.heap.size ≤ q) (wD cI dA bA aA tA d1060 ++ wM cI mA mo ++ wS cB (fun _ : Nat => mA 10) x ++ [((oA 0), .inl (cJ, 1, .inr (.inl w1060)))]) := hD
  refine lv_istore (lv' := [(5, .int r1060), (0, .ref b), (1, .ref (dA 0)), (2, .ref (mA 0)), (3, .ref (oA 0)), (4, .int i)]) hx hb dL_law_1063 hl (by decide) rfl (fun ls hl => ?_)
  refine lv_aload_n hx hb dL_law_1065 rfl (lv_at hl 3 rfl) ?_
  refine lv_aload_n hx hb dL_law_1066 rfl (lv_at hl 1 rfl) ?_
  refine lv_iload hx hb dL_law_1067 (lv_at hl 5 rfl) ?_
  refine lv_iconst (v := 1) hx hb dL_law_1069 (by decide) ?_
  refine lv_iadd hx hb dL_law_1070 ?_
  obtain ⟨g9, h⟩ := h
  refine va_sld hx hb hX hbl hbA hS g9 dL_law_1071 ?_
  refine z_WV (As := [.int (xs (i + 1).toNatClampNeg)]) (rest := []) (wr := (wD cI dA bA aA tA d1060 ++ wS cB (fun _ : Nat => mA 10) x ++ [((oA 0), .inl (cJ, 1, .inr (.inl w1060)))] : va_W)) (wN := (fun u : Int32 × MS => wD cI dA bA aA tA d1060 ++ wM cI mA u.2 ++ wS cB (fun _ : Nat => mA 10) x ++ [((oA 0), .inl (cJ, 1, .inr (.inl w1060)))])) [22, 23, 24, 25, 26, 27, 28, 29, 30, 31] [0, 1, 2, 3, 4, 5, 6, 7, 8, 9, 10, 11, 12, 13, 14, 15, 16, 17, 18, 19, 20, 21, 32, 33, 34] [0, 1, 2, 3, 4, 5, 6, 7, 8, 9, 10, 11, 12, 13, 14, 15, 16, 17, 18, 19, 20, 21, 25, 26, 27, 28, 29, 30, 31, 32, 33, 34, 22, 23, 24] C hG hA hP hD hS (c_X3_hanging hfl hs0 D cI cB cJ mA mo (xs (i + 1).toNatClampNeg) h) q738 v_X3_hanging rfl rfl ⟨by decide, by decide, by decide⟩ (by decide) (fun _ => rfl) rfl rfl rfl ⟨(by first | (dsimp only [room_1]; omega) | omega | exact Nat.le_of_ble_eq_true rfl), (by first | (dsimp only [room_1]; omega) | omega | exact Nat.le_of_ble_eq_true rfl)⟩ ⟨(by first | (dsimp only [room_1]; omega) | omega | exact Nat.le_of_ble_eq_true rfl), (by first | (dsimp only [room_1]; omega) | omega | exact Nat.le_of_ble_eq_true rfl)⟩ hl.1 rfl (lv_room (by first | (dsimp only [room_1]; omega) | omega | exact Nat.le_of_ble_eq_true rfl)) dL_law_1072 (fun u H locs h hP hD hS => ?_)
  obtain ⟨r1072, mo1072⟩ := u
  have hP : va_P D vwCl (wD cI dA bA aA tA d1060 ++ wM cI mA mo1072 ++ wS cB (fun _ : Nat => mA 10) x ++ [((oA 0), .inl (cJ, 1, .inr (.inl w1060)))]) H := hP
  have hD : va_D (fun q : Nat => s.heap.size ≤ q) (wD cI dA bA aA tA d1060 ++ wM cI mA mo1072 ++ wS cB (fun _ : Nat => mA 10) x ++ [((oA 0), .inl (cJ, 1, .inr (.inl w1060)))]) := hD
  refine lv_istore (lv' := [(6, .int r1072), (5, .int r1060), (0, .ref b), (1, .ref (dA 0)), (2, .ref (mA 0)), (3, .ref (oA 0)), (4, .int i)]) hx hb dL_law_1075 hl (by decide) rfl (fun ls hl => ?_)
  refine lv_aload_n hx hb dL_law_1077 rfl (lv_at hl 4 rfl) ?_
  refine z_RV (As := []) (rest := []) [22, 23, 24, 25, 26, 27, 28, 29, 30, 31] C (hG.kept hS.1 hS.2.1).none hP (c_X3_thrown hfl hs0 D cI cB cJ mA mo1072 h) q650 v_X3_thrown rfl rfl rfl rfl ⟨(by first | (dsimp only [room_1]; omega) | omega | exact Nat.le_of_ble_eq_true rfl), (by first | (dsimp only [room_1]; omega) | omega | exact Nat.le_of_ble_eq_true rfl)⟩ ⟨(by first | (dsimp only [room_1]; omega) | omega | exact Nat.le_of_ble_eq_true rfl), (by first | (dsimp only [room_1]; omega) | omega | exact Nat.le_of_ble_eq_true rfl)⟩ hl.1 rfl (lv_room (by first | (dsimp only [room_1]; omega) | omega | exact Nat.le_of_ble_eq_true rfl)) dL_law_1078 (fun r1078 h => ?_)
  refine lv_iload hx hb dL_law_1081 (lv_at hl 1 rfl) ?_
  refine lv_icmp_eq (tgt := 1088) hx hb dL_law_1083 (by decide) (fun c1083 => ?_) (fun c1083 => ?_)
  · have h := h.1 c1083
    refine lv_iload hx hb dL_law_1088 (lv_at hl 1 rfl) ?_
    refine lv_if_ne (tgt := 1105) hx hb dL_law_1090 (by decide) (fun c1090 => ?_) (fun c1090 => ?_)
    · have h := h.2 c1090
      refine lv_goto (tgt := 1648) hx hb dL_law_1105 (by decide) ?_
      refine lv_iinc (v := (i + 8)) (lv' := [(4, .int (i + 8)), (6, .int r1072), (5, .int r1060), (0, .ref b), (1, .ref (dA 0)), (2, .ref (mA 0)), (3, .ref (oA 0))]) hx hb dL_law_1648 hl (k := 6) rfl (by first | rfl | decide) (by decide) rfl (fun ls hl => ?_)
      refine lv_goto (tgt := 23) hx hb dL_law_1651 (by decide) ?_
      refine W.widen (k := cells + 210) (n := slots + 6594) (by first | (dsimp only [room_1]; omega) | omega | exact Nat.le_of_ble_eq_true rfl) (by first | (dsimp only [room_1]; omega) | omega | exact Nat.le_of_ble_eq_true rfl) ?_
      exact hk _ _ _ _ _ _ _ hP hD hS _ (lv_sub hl [3, 4, 5, 6, 0] rfl) h
    · have h := h.1 c1090
      refine lv_aload_n hx hb dL_law_1093 rfl (lv_at hl 5 rfl) ?_
      refine lv_iconst (v := 0) hx hb dL_law_1094 (by decide) ?_
      refine va_lald hx hb hK hP 34 2 rfl rfl (show ¬ ((0 : Int32) < 0 ∨ 1 ≤ (0 : Int32).toNatClampNeg) from by decide) dL_law_1095 ?_
      refine lv_iload hx hb dL_law_1096 (lv_at hl 0 rfl) ?_
      refine lv_i2l hx hb dL_law_1098 rfl ?_
      refine W.lcmp hx hb dL_law_1099 ?_
      refine lv_if_eq (tgt := 1105) hx hb dL_law_1100 (by decide) (fun c1100 => ?_) (fun c1100 => ?_)
      · have h := h.1 c1100
        refine lv_goto (tgt := 1648) hx hb dL_law_1105 (by decide) ?_
        refine lv_iinc (v := (i + 8)) (lv' := [(4, .int (i + 8)), (6, .int r1072), (5, .int r1060), (0, .ref b), (1, .ref (dA 0)), (2, .ref (mA 0)), (3, .ref (oA 0))]) hx hb dL_law_1648 hl (k := 6) rfl (by first | rfl | decide) (by decide) rfl (fun ls hl => ?_)
        refine lv_goto (tgt := 23) hx hb dL_law_1651 (by decide) ?_
        refine W.widen (k := cells + 210) (n := slots + 6594) (by first | (dsimp only [room_1]; omega) | omega | exact Nat.le_of_ble_eq_true rfl) (by first | (dsimp only [room_1]; omega) | omega | exact Nat.le_of_ble_eq_true rfl) ?_
        exact hk _ _ _ _ _ _ _ hP hD hS _ (lv_sub hl [3, 4, 5, 6, 0] rfl) h
      · have h := h.2 c1100
        refine lv_iconst (v := 0) hx hb dL_law_1103 (by decide) ?_
        exact (show False from h).elim
  · have h := h.2 c1083
    refine lv_iconst (v := 0) hx hb dL_law_1086 (by decide) ?_
    exact (show False from h).elim
def wpLc_1108 (K : Int32 → DS → MS → SS → (Nat → Int64) → Prop) (L : Nat) (xs : Nat → Int32) (i : Int32) (d : DS) (mo : MS) (x : SS) (w : Nat → Int64) : Prop := vp_in (i + 1) L ∧ (wpL_depthOf (fun r1116 d1116 w1116 => vp_in (i + 1) L ∧ (wpX3_depthOf (fun r1128 mo1128 => wpX3_thrown (fun r1134 => (r1134 = r1116 → (r1116 = 0 → ((lg_cmp (w1116 (0 : Int32).toNatClampNeg) r1128.toInt64) = 0 → K (i + 8) d1116 mo1128 x w1116) ∧ (¬ (lg_cmp (w1116 (0 : Int32).toNatClampNeg) r1128.toInt64) = 0 → False)) ∧ (¬ r1116 = 0 → K (i + 8) d1116 mo1128 x w1116)) ∧ (¬ r1134 = r1116 → False)) mo1128) mo (xs (i + 1).toNatClampNeg))) d w (xs (i + 1).toNatClampNeg))
set_option maxHeartbeats 4000000 in
set_option maxRecDepth 100000 in
theorem lc_1108 {p : Program} {l : Launch} {e : Env} {s : State} {m : MethodId} {below : List Frame} {meth : Method} {c : Code} {b L : Nat} {xs : Nat → Int32} {D : va_G} {cI cB cJ : ClassId} {dA bA aA tA mA oA : Nat → Nat} {Q : State → Prop} {cells slots : Nat} {K : Int32 → DS → MS → SS → (Nat → Int64) → Prop} (hfl : l.stackTraces = false) (hs0 : zS s) (C : zC D (zty cI cB cJ) p s m #[Value.ref b] meth c cL_law RL ret 9) (hA : ∀ q : Nat, s.heap.size ≤ q → (fun q : Nat => s.heap.size ≤ q) q) (hG : zG s (fun q : Nat => s.heap.size ≤ q) s s.heap) (hX : va_X b L xs s s.heap) (hbl : b < s.heap.size) (hcs : cells + 210 ≤ 635979 ∧ slots + 6594 ≤ 7188166)
    (hk : ∀ (i : Int32) (d : DS) (mo : MS) (x : SS) (w : Nat → Int64) (H : Heap) (locs : List Loc), va_P D vwCl (wD cI dA bA aA tA d ++ wM cI mA mo ++ wS cB (fun _ : Nat => mA 10) x ++ [((oA 0), .inl (cJ, 1, .inr (.inl w)))]) H → va_D (fun q : Nat => s.heap.size ≤ q) (wD cI dA bA aA tA d ++ wM cI mA mo ++ wS cB (fun _ : Nat => mA 10) x ++ [((oA 0), .inl (cJ, 1, .inr (.inl w)))]) → va_S (fun q : Nat => s.heap.size ≤ q) s.heap H locs → ∀ ls : Array Slot, lv_has ls 9 [(0, .ref b), (1, .ref (dA 0)), (2, .ref (mA 0)), (3, .ref (oA 0)), (4, .int i)] → K i d mo x w → W p l e room_1 s m #[Value.ref b] below meth c H locs (cells + 210) (slots + 6594) Q (F0 m 23 ls []))
    (i : Int32) (d : DS) (mo : MS) (x : SS) (w : Nat → Int64) (H : Heap) (locs : List Loc) (hP : va_P D vwCl (wD cI dA bA aA tA d ++ wM cI mA mo ++ wS cB (fun _ : Nat => mA 10) x ++ [((oA 0), .inl (cJ, 1, .inr (.inl w)))]) H) (hD : va_D (fun q : Nat => s.heap.size ≤ q) (wD cI dA bA aA tA d ++ wM cI mA mo ++ wS cB (fun _ : Nat => mA 10) x ++ [((oA 0), .inl (cJ, 1, .inr (.inl w)))])) (hS : va_S (fun q : Nat => s.heap.size ≤ q) s.heap H locs) (ls : Array Slot) (hl : lv_has ls 9 [(0, .ref b), (1, .ref (dA 0)), (2, .ref (mA 0)), (3, .ref (oA 0)), (4, .int i)]) (h : wpLc_1108 K L xs i d mo x w) : W p l e room_1 s m #[Value.ref b] below meth c H locs cells slots Q (F0 m 1108 ls []) := by
  have hx := C.1
  have hb := C.2.1
  have hts := C.2.2.1
  have hown := C.2.2.2.1
  have hml := C.2.2.2.2.2.1
  have hK := C.2.2.2.2.2.2.2
  have hbA : ¬ (fun q : Nat => s.heap.size ≤ q) b := Nat.not_le.mpr hbl
  unfold wpLc_1108 at h
  refine lv_aload_n hx hb dL_law_1108 rfl (lv_at hl 1 rfl) ?_
  refine lv_aload_n hx hb dL_law_1109 rfl (lv_at hl 0 rfl) ?_
  refine lv_iload hx hb dL_law_1110 (lv_at hl 4 rfl) ?_
  refine lv_iconst (v := 1) hx hb dL_law_1112 (by decide) ?_
  refine lv_iadd hx hb dL_law_1113 ?_
  obtain ⟨g9, h⟩ := h
  refine va_sld hx hb hX hbl hbA hS g9 dL_law_1114 ?_
  refine lv_aload_n hx hb dL_law_1115 rfl (lv_at hl 3 rfl) ?_
  refine z_WH (As := [.ref (dA 0), .int (xs (i + 1).toNatClampNeg), .ref (oA 0)]) (rest := []) (wr := (wM cI mA mo ++ wS cB (fun _ : Nat => mA 10) x : va_W)) (wN := (fun u : Int32 × DS × (Nat → Int64) => wD cI dA bA aA tA u.2.1 ++ wM cI mA mo ++ wS cB (fun _ : Nat => mA 10) x ++ [((oA 0), .inl (cJ, 1, .inr (.inl u.2.2)))])) [0, 1, 2, 3, 4, 5, 6, 7, 8, 9, 10, 11, 12, 13, 14, 15, 16, 17, 18, 19, 20, 21, 34] [22, 23, 24, 25, 26, 27, 28, 29, 30, 31, 32, 33] [12, 13, 14, 15, 16, 17, 18, 19, 20, 21, 22, 23, 24, 25, 26, 27, 28, 29, 30, 31, 32, 33, 0, 1, 2, 3, 4, 5, 6, 7, 8, 9, 10, 11, 34] C hG hA hP hD hS (c_L_depthOf hfl hs0 D cI cB cJ dA bA aA tA oA d w (xs (i + 1).toNatClampNeg) h) q742 v_L_depthOf rfl rfl ⟨by decide, by decide, by decide⟩ (by decide) (fun _ => rfl) rfl ⟨(by first | (dsimp only [room_1]; omega) | omega | exact Nat.le_of_ble_eq_true rfl), (by first | (dsimp only [room_1]; omega) | omega | exact Nat.le_of_ble_eq_true rfl)⟩ ⟨(by first | (dsimp only [room_1]; omega) | omega | exact Nat.le_of_ble_eq_true rfl), (by first | (dsimp only [room_1]; omega) | omega | exact Nat.le_of_ble_eq_true rfl)⟩ hl.1 rfl (lv_room (by first | (dsimp only [room_1]; omega) | omega | exact Nat.le_of_ble_eq_true rfl)) dL_law_1116 (fun u H locs h hP hD hS => ?_)
  obtain ⟨r1116, d1116, w1116⟩ := u
  have hP : va_P D vwCl (wD cI dA bA aA tA d1116 ++ wM cI mA mo ++ wS cB (fun _ : Nat => mA 10) x ++ [((oA 0), .inl (cJ, 1, .inr (.inl w1116)))]) H := hP
  have hD : va_D (fun q : Nat => s.heap.size ≤ q) (wD cI dA bA aA tA d1116 ++ wM cI mA mo ++ wS cB (fun _ : Nat => mA 10) x ++ [((oA 0), .inl (cJ, 1, .inr (.inl w1116)))]) := hD
  refine lv_istore (lv' := [(5, .int r1116), (0, .ref b), (1, .ref (dA 0)), (2, .ref (mA 0)), (3, .ref (oA 0)), (4, .int i)]) hx hb dL_law_1119 hl (by decide) rfl (fun ls hl => ?_)
  refine lv_aload_n hx hb dL_law_1121 rfl (lv_at hl 3 rfl) ?_
  refine lv_aload_n hx hb dL_law_1122 rfl (lv_at hl 1 rfl) ?_
  refine lv_iload hx hb dL_law_1123 (lv_at hl 5 rfl) ?_
  refine lv_iconst (v := 1) hx hb dL_law_1125 (by decide) ?_
  refine lv_iadd hx hb dL_law_1126 ?_
  obtain ⟨g9, h⟩ := h
  refine va_sld hx hb hX hbl hbA hS g9 dL_law_1127 ?_
  refine z_WV (As := [.int (xs (i + 1).toNatClampNeg)]) (rest := []) (wr := (wD cI dA bA aA tA d1116 ++ wS cB (fun _ : Nat => mA 10) x ++ [((oA 0), .inl (cJ, 1, .inr (.inl w1116)))] : va_W)) (wN := (fun u : Int32 × MS => wD cI dA bA aA tA d1116 ++ wM cI mA u.2 ++ wS cB (fun _ : Nat => mA 10) x ++ [((oA 0), .inl (cJ, 1, .inr (.inl w1116)))])) [22, 23, 24, 25, 26, 27, 28, 29, 30, 31] [0, 1, 2, 3, 4, 5, 6, 7, 8, 9, 10, 11, 12, 13, 14, 15, 16, 17, 18, 19, 20, 21, 32, 33, 34] [0, 1, 2, 3, 4, 5, 6, 7, 8, 9, 10, 11, 12, 13, 14, 15, 16, 17, 18, 19, 20, 21, 25, 26, 27, 28, 29, 30, 31, 32, 33, 34, 22, 23, 24] C hG hA hP hD hS (c_X3_depthOf hfl hs0 D cI cB cJ mA mo (xs (i + 1).toNatClampNeg) h) q743 v_X3_depthOf rfl rfl ⟨by decide, by decide, by decide⟩ (by decide) (fun _ => rfl) rfl rfl rfl ⟨(by first | (dsimp only [room_1]; omega) | omega | exact Nat.le_of_ble_eq_true rfl), (by first | (dsimp only [room_1]; omega) | omega | exact Nat.le_of_ble_eq_true rfl)⟩ ⟨(by first | (dsimp only [room_1]; omega) | omega | exact Nat.le_of_ble_eq_true rfl), (by first | (dsimp only [room_1]; omega) | omega | exact Nat.le_of_ble_eq_true rfl)⟩ hl.1 rfl (lv_room (by first | (dsimp only [room_1]; omega) | omega | exact Nat.le_of_ble_eq_true rfl)) dL_law_1128 (fun u H locs h hP hD hS => ?_)
  obtain ⟨r1128, mo1128⟩ := u
  have hP : va_P D vwCl (wD cI dA bA aA tA d1116 ++ wM cI mA mo1128 ++ wS cB (fun _ : Nat => mA 10) x ++ [((oA 0), .inl (cJ, 1, .inr (.inl w1116)))]) H := hP
  have hD : va_D (fun q : Nat => s.heap.size ≤ q) (wD cI dA bA aA tA d1116 ++ wM cI mA mo1128 ++ wS cB (fun _ : Nat => mA 10) x ++ [((oA 0), .inl (cJ, 1, .inr (.inl w1116)))]) := hD
  refine lv_istore (lv' := [(6, .int r1128), (5, .int r1116), (0, .ref b), (1, .ref (dA 0)), (2, .ref (mA 0)), (3, .ref (oA 0)), (4, .int i)]) hx hb dL_law_1131 hl (by decide) rfl (fun ls hl => ?_)
  refine lv_aload_n hx hb dL_law_1133 rfl (lv_at hl 4 rfl) ?_
  refine z_RV (As := []) (rest := []) [22, 23, 24, 25, 26, 27, 28, 29, 30, 31] C (hG.kept hS.1 hS.2.1).none hP (c_X3_thrown hfl hs0 D cI cB cJ mA mo1128 h) q650 v_X3_thrown rfl rfl rfl rfl ⟨(by first | (dsimp only [room_1]; omega) | omega | exact Nat.le_of_ble_eq_true rfl), (by first | (dsimp only [room_1]; omega) | omega | exact Nat.le_of_ble_eq_true rfl)⟩ ⟨(by first | (dsimp only [room_1]; omega) | omega | exact Nat.le_of_ble_eq_true rfl), (by first | (dsimp only [room_1]; omega) | omega | exact Nat.le_of_ble_eq_true rfl)⟩ hl.1 rfl (lv_room (by first | (dsimp only [room_1]; omega) | omega | exact Nat.le_of_ble_eq_true rfl)) dL_law_1134 (fun r1134 h => ?_)
  refine lv_iload hx hb dL_law_1137 (lv_at hl 1 rfl) ?_
  refine lv_icmp_eq (tgt := 1144) hx hb dL_law_1139 (by decide) (fun c1139 => ?_) (fun c1139 => ?_)
  · have h := h.1 c1139
    refine lv_iload hx hb dL_law_1144 (lv_at hl 1 rfl) ?_
    refine lv_if_ne (tgt := 1161) hx hb dL_law_1146 (by decide) (fun c1146 => ?_) (fun c1146 => ?_)
    · have h := h.2 c1146
      refine lv_goto (tgt := 1648) hx hb dL_law_1161 (by decide) ?_
      refine lv_iinc (v := (i + 8)) (lv' := [(4, .int (i + 8)), (6, .int r1128), (5, .int r1116), (0, .ref b), (1, .ref (dA 0)), (2, .ref (mA 0)), (3, .ref (oA 0))]) hx hb dL_law_1648 hl (k := 6) rfl (by first | rfl | decide) (by decide) rfl (fun ls hl => ?_)
      refine lv_goto (tgt := 23) hx hb dL_law_1651 (by decide) ?_
      refine W.widen (k := cells + 210) (n := slots + 6594) (by first | (dsimp only [room_1]; omega) | omega | exact Nat.le_of_ble_eq_true rfl) (by first | (dsimp only [room_1]; omega) | omega | exact Nat.le_of_ble_eq_true rfl) ?_
      exact hk _ _ _ _ _ _ _ hP hD hS _ (lv_sub hl [3, 4, 5, 6, 0] rfl) h
    · have h := h.1 c1146
      refine lv_aload_n hx hb dL_law_1149 rfl (lv_at hl 5 rfl) ?_
      refine lv_iconst (v := 0) hx hb dL_law_1150 (by decide) ?_
      refine va_lald hx hb hK hP 34 2 rfl rfl (show ¬ ((0 : Int32) < 0 ∨ 1 ≤ (0 : Int32).toNatClampNeg) from by decide) dL_law_1151 ?_
      refine lv_iload hx hb dL_law_1152 (lv_at hl 0 rfl) ?_
      refine lv_i2l hx hb dL_law_1154 rfl ?_
      refine W.lcmp hx hb dL_law_1155 ?_
      refine lv_if_eq (tgt := 1161) hx hb dL_law_1156 (by decide) (fun c1156 => ?_) (fun c1156 => ?_)
      · have h := h.1 c1156
        refine lv_goto (tgt := 1648) hx hb dL_law_1161 (by decide) ?_
        refine lv_iinc (v := (i + 8)) (lv' := [(4, .int (i + 8)), (6, .int r1128), (5, .int r1116), (0, .ref b), (1, .ref (dA 0)), (2, .ref (mA 0)), (3, .ref (oA 0))]) hx hb dL_law_1648 hl (k := 6) rfl (by first | rfl | decide) (by decide) rfl (fun ls hl => ?_)
        refine lv_goto (tgt := 23) hx hb dL_law_1651 (by decide) ?_
        refine W.widen (k := cells + 210) (n := slots + 6594) (by first | (dsimp only [room_1]; omega) | omega | exact Nat.le_of_ble_eq_true rfl) (by first | (dsimp only [room_1]; omega) | omega | exact Nat.le_of_ble_eq_true rfl) ?_
        exact hk _ _ _ _ _ _ _ hP hD hS _ (lv_sub hl [3, 4, 5, 6, 0] rfl) h
      · have h := h.2 c1156
        refine lv_iconst (v := 0) hx hb dL_law_1159 (by decide) ?_
        exact (show False from h).elim
  · have h := h.2 c1139
    refine lv_iconst (v := 0) hx hb dL_law_1142 (by decide) ?_
    exact (show False from h).elim
def wpLc_1164 (K : Int32 → DS → MS → SS → (Nat → Int64) → Prop) (L : Nat) (xs : Nat → Int32) (i : Int32) (d : DS) (mo : MS) (x : SS) (w : Nat → Int64) : Prop := vp_in (i + 1) L ∧ (wpL_textLength (fun r1172 d1172 w1172 => vp_in (i + 1) L ∧ (wpX3_textLength (fun r1184 mo1184 x1184 => wpX3_thrown (fun r1190 => (r1190 = r1172 → (r1172 = 0 → ((lg_cmp (w1172 (0 : Int32).toNatClampNeg) r1184.toInt64) = 0 → K (i + 8) d1172 mo1184 x1184 w1172) ∧ (¬ (lg_cmp (w1172 (0 : Int32).toNatClampNeg) r1184.toInt64) = 0 → False)) ∧ (¬ r1172 = 0 → K (i + 8) d1172 mo1184 x1184 w1172)) ∧ (¬ r1190 = r1172 → False)) mo1184) mo x (xs (i + 1).toNatClampNeg))) d w (xs (i + 1).toNatClampNeg))
set_option maxHeartbeats 4000000 in
set_option maxRecDepth 100000 in
theorem lc_1164 {p : Program} {l : Launch} {e : Env} {s : State} {m : MethodId} {below : List Frame} {meth : Method} {c : Code} {b L : Nat} {xs : Nat → Int32} {D : va_G} {cI cB cJ : ClassId} {dA bA aA tA mA oA : Nat → Nat} {Q : State → Prop} {cells slots : Nat} {K : Int32 → DS → MS → SS → (Nat → Int64) → Prop} (hfl : l.stackTraces = false) (hs0 : zS s) (C : zC D (zty cI cB cJ) p s m #[Value.ref b] meth c cL_law RL ret 9) (hA : ∀ q : Nat, s.heap.size ≤ q → (fun q : Nat => s.heap.size ≤ q) q) (hG : zG s (fun q : Nat => s.heap.size ≤ q) s s.heap) (hX : va_X b L xs s s.heap) (hbl : b < s.heap.size) (hcs : cells + 210 ≤ 635979 ∧ slots + 6594 ≤ 7188166)
    (hk : ∀ (i : Int32) (d : DS) (mo : MS) (x : SS) (w : Nat → Int64) (H : Heap) (locs : List Loc), va_P D vwCl (wD cI dA bA aA tA d ++ wM cI mA mo ++ wS cB (fun _ : Nat => mA 10) x ++ [((oA 0), .inl (cJ, 1, .inr (.inl w)))]) H → va_D (fun q : Nat => s.heap.size ≤ q) (wD cI dA bA aA tA d ++ wM cI mA mo ++ wS cB (fun _ : Nat => mA 10) x ++ [((oA 0), .inl (cJ, 1, .inr (.inl w)))]) → va_S (fun q : Nat => s.heap.size ≤ q) s.heap H locs → ∀ ls : Array Slot, lv_has ls 9 [(0, .ref b), (1, .ref (dA 0)), (2, .ref (mA 0)), (3, .ref (oA 0)), (4, .int i)] → K i d mo x w → W p l e room_1 s m #[Value.ref b] below meth c H locs (cells + 210) (slots + 6594) Q (F0 m 23 ls []))
    (i : Int32) (d : DS) (mo : MS) (x : SS) (w : Nat → Int64) (H : Heap) (locs : List Loc) (hP : va_P D vwCl (wD cI dA bA aA tA d ++ wM cI mA mo ++ wS cB (fun _ : Nat => mA 10) x ++ [((oA 0), .inl (cJ, 1, .inr (.inl w)))]) H) (hD : va_D (fun q : Nat => s.heap.size ≤ q) (wD cI dA bA aA tA d ++ wM cI mA mo ++ wS cB (fun _ : Nat => mA 10) x ++ [((oA 0), .inl (cJ, 1, .inr (.inl w)))])) (hS : va_S (fun q : Nat => s.heap.size ≤ q) s.heap H locs) (ls : Array Slot) (hl : lv_has ls 9 [(0, .ref b), (1, .ref (dA 0)), (2, .ref (mA 0)), (3, .ref (oA 0)), (4, .int i)]) (h : wpLc_1164 K L xs i d mo x w) : W p l e room_1 s m #[Value.ref b] below meth c H locs cells slots Q (F0 m 1164 ls []) := by
  have hx := C.1
  have hb := C.2.1
  have hts := C.2.2.1
  have hown := C.2.2.2.1
  have hml := C.2.2.2.2.2.1
  have hK := C.2.2.2.2.2.2.2
  have hbA : ¬ (fun q : Nat => s.heap.size ≤ q) b := Nat.not_le.mpr hbl
  unfold wpLc_1164 at h
  refine lv_aload_n hx hb dL_law_1164 rfl (lv_at hl 1 rfl) ?_
  refine lv_aload_n hx hb dL_law_1165 rfl (lv_at hl 0 rfl) ?_
  refine lv_iload hx hb dL_law_1166 (lv_at hl 4 rfl) ?_
  refine lv_iconst (v := 1) hx hb dL_law_1168 (by decide) ?_
  refine lv_iadd hx hb dL_law_1169 ?_
  obtain ⟨g9, h⟩ := h
  refine va_sld hx hb hX hbl hbA hS g9 dL_law_1170 ?_
  refine lv_aload_n hx hb dL_law_1171 rfl (lv_at hl 3 rfl) ?_
  refine z_WH (As := [.ref (dA 0), .int (xs (i + 1).toNatClampNeg), .ref (oA 0)]) (rest := []) (wr := (wM cI mA mo ++ wS cB (fun _ : Nat => mA 10) x : va_W)) (wN := (fun u : Int32 × DS × (Nat → Int64) => wD cI dA bA aA tA u.2.1 ++ wM cI mA mo ++ wS cB (fun _ : Nat => mA 10) x ++ [((oA 0), .inl (cJ, 1, .inr (.inl u.2.2)))])) [0, 1, 2, 3, 4, 5, 6, 7, 8, 9, 10, 11, 12, 13, 14, 15, 16, 17, 18, 19, 20, 21, 34] [22, 23, 24, 25, 26, 27, 28, 29, 30, 31, 32, 33] [12, 13, 14, 15, 16, 17, 18, 19, 20, 21, 22, 23, 24, 25, 26, 27, 28, 29, 30, 31, 32, 33, 0, 1, 2, 3, 4, 5, 6, 7, 8, 9, 10, 11, 34] C hG hA hP hD hS (c_L_textLength hfl hs0 D cI cB cJ dA bA aA tA oA d w (xs (i + 1).toNatClampNeg) h) q747 v_L_textLength rfl rfl ⟨by decide, by decide, by decide⟩ (by decide) (fun _ => rfl) rfl ⟨(by first | (dsimp only [room_1]; omega) | omega | exact Nat.le_of_ble_eq_true rfl), (by first | (dsimp only [room_1]; omega) | omega | exact Nat.le_of_ble_eq_true rfl)⟩ ⟨(by first | (dsimp only [room_1]; omega) | omega | exact Nat.le_of_ble_eq_true rfl), (by first | (dsimp only [room_1]; omega) | omega | exact Nat.le_of_ble_eq_true rfl)⟩ hl.1 rfl (lv_room (by first | (dsimp only [room_1]; omega) | omega | exact Nat.le_of_ble_eq_true rfl)) dL_law_1172 (fun u H locs h hP hD hS => ?_)
  obtain ⟨r1172, d1172, w1172⟩ := u
  have hP : va_P D vwCl (wD cI dA bA aA tA d1172 ++ wM cI mA mo ++ wS cB (fun _ : Nat => mA 10) x ++ [((oA 0), .inl (cJ, 1, .inr (.inl w1172)))]) H := hP
  have hD : va_D (fun q : Nat => s.heap.size ≤ q) (wD cI dA bA aA tA d1172 ++ wM cI mA mo ++ wS cB (fun _ : Nat => mA 10) x ++ [((oA 0), .inl (cJ, 1, .inr (.inl w1172)))]) := hD
  refine lv_istore (lv' := [(5, .int r1172), (0, .ref b), (1, .ref (dA 0)), (2, .ref (mA 0)), (3, .ref (oA 0)), (4, .int i)]) hx hb dL_law_1175 hl (by decide) rfl (fun ls hl => ?_)
  refine lv_aload_n hx hb dL_law_1177 rfl (lv_at hl 3 rfl) ?_
  refine lv_aload_n hx hb dL_law_1178 rfl (lv_at hl 1 rfl) ?_
  refine lv_iload hx hb dL_law_1179 (lv_at hl 5 rfl) ?_
  refine lv_iconst (v := 1) hx hb dL_law_1181 (by decide) ?_
  refine lv_iadd hx hb dL_law_1182 ?_
  obtain ⟨g9, h⟩ := h
  refine va_sld hx hb hX hbl hbA hS g9 dL_law_1183 ?_
  refine z_WV (As := [.int (xs (i + 1).toNatClampNeg)]) (rest := []) (wr := (wD cI dA bA aA tA d1172 ++ [((oA 0), .inl (cJ, 1, .inr (.inl w1172)))] : va_W)) (wN := (fun u : Int32 × MS × SS => wD cI dA bA aA tA d1172 ++ wM cI mA u.2.1 ++ wS cB (fun _ : Nat => mA 10) u.2.2 ++ [((oA 0), .inl (cJ, 1, .inr (.inl w1172)))])) [22, 23, 24, 25, 26, 27, 28, 29, 30, 31, 32, 33] [0, 1, 2, 3, 4, 5, 6, 7, 8, 9, 10, 11, 12, 13, 14, 15, 16, 17, 18, 19, 20, 21, 34] [0, 1, 2, 3, 4, 5, 6, 7, 8, 9, 10, 11, 12, 13, 14, 15, 16, 17, 18, 19, 20, 21, 23, 24, 25, 26, 27, 28, 29, 30, 31, 32, 33, 34, 22] C hG hA hP hD hS (c_X3_textLength hfl hs0 D cI cB cJ mA mo x (xs (i + 1).toNatClampNeg) h) q748 v_X3_textLength rfl rfl ⟨by decide, by decide, by decide⟩ (by decide) (fun _ => rfl) rfl rfl rfl ⟨(by first | (dsimp only [room_1]; omega) | omega | exact Nat.le_of_ble_eq_true rfl), (by first | (dsimp only [room_1]; omega) | omega | exact Nat.le_of_ble_eq_true rfl)⟩ ⟨(by first | (dsimp only [room_1]; omega) | omega | exact Nat.le_of_ble_eq_true rfl), (by first | (dsimp only [room_1]; omega) | omega | exact Nat.le_of_ble_eq_true rfl)⟩ hl.1 rfl (lv_room (by first | (dsimp only [room_1]; omega) | omega | exact Nat.le_of_ble_eq_true rfl)) dL_law_1184 (fun u H locs h hP hD hS => ?_)
  obtain ⟨r1184, mo1184, x1184⟩ := u
  have hP : va_P D vwCl (wD cI dA bA aA tA d1172 ++ wM cI mA mo1184 ++ wS cB (fun _ : Nat => mA 10) x1184 ++ [((oA 0), .inl (cJ, 1, .inr (.inl w1172)))]) H := hP
  have hD : va_D (fun q : Nat => s.heap.size ≤ q) (wD cI dA bA aA tA d1172 ++ wM cI mA mo1184 ++ wS cB (fun _ : Nat => mA 10) x1184 ++ [((oA 0), .inl (cJ, 1, .inr (.inl w1172)))]) := hD
  refine lv_istore (lv' := [(6, .int r1184), (5, .int r1172), (0, .ref b), (1, .ref (dA 0)), (2, .ref (mA 0)), (3, .ref (oA 0)), (4, .int i)]) hx hb dL_law_1187 hl (by decide) rfl (fun ls hl => ?_)
  refine lv_aload_n hx hb dL_law_1189 rfl (lv_at hl 4 rfl) ?_
  refine z_RV (As := []) (rest := []) [22, 23, 24, 25, 26, 27, 28, 29, 30, 31] C (hG.kept hS.1 hS.2.1).none hP (c_X3_thrown hfl hs0 D cI cB cJ mA mo1184 h) q650 v_X3_thrown rfl rfl rfl rfl ⟨(by first | (dsimp only [room_1]; omega) | omega | exact Nat.le_of_ble_eq_true rfl), (by first | (dsimp only [room_1]; omega) | omega | exact Nat.le_of_ble_eq_true rfl)⟩ ⟨(by first | (dsimp only [room_1]; omega) | omega | exact Nat.le_of_ble_eq_true rfl), (by first | (dsimp only [room_1]; omega) | omega | exact Nat.le_of_ble_eq_true rfl)⟩ hl.1 rfl (lv_room (by first | (dsimp only [room_1]; omega) | omega | exact Nat.le_of_ble_eq_true rfl)) dL_law_1190 (fun r1190 h => ?_)
  refine lv_iload hx hb dL_law_1193 (lv_at hl 1 rfl) ?_
  refine lv_icmp_eq (tgt := 1200) hx hb dL_law_1195 (by decide) (fun c1195 => ?_) (fun c1195 => ?_)
  · have h := h.1 c1195
    refine lv_iload hx hb dL_law_1200 (lv_at hl 1 rfl) ?_
    refine lv_if_ne (tgt := 1217) hx hb dL_law_1202 (by decide) (fun c1202 => ?_) (fun c1202 => ?_)
    · have h := h.2 c1202
      refine lv_goto (tgt := 1648) hx hb dL_law_1217 (by decide) ?_
      refine lv_iinc (v := (i + 8)) (lv' := [(4, .int (i + 8)), (6, .int r1184), (5, .int r1172), (0, .ref b), (1, .ref (dA 0)), (2, .ref (mA 0)), (3, .ref (oA 0))]) hx hb dL_law_1648 hl (k := 6) rfl (by first | rfl | decide) (by decide) rfl (fun ls hl => ?_)
      refine lv_goto (tgt := 23) hx hb dL_law_1651 (by decide) ?_
      refine W.widen (k := cells + 210) (n := slots + 6594) (by first | (dsimp only [room_1]; omega) | omega | exact Nat.le_of_ble_eq_true rfl) (by first | (dsimp only [room_1]; omega) | omega | exact Nat.le_of_ble_eq_true rfl) ?_
      exact hk _ _ _ _ _ _ _ hP hD hS _ (lv_sub hl [3, 4, 5, 6, 0] rfl) h
    · have h := h.1 c1202
      refine lv_aload_n hx hb dL_law_1205 rfl (lv_at hl 5 rfl) ?_
      refine lv_iconst (v := 0) hx hb dL_law_1206 (by decide) ?_
      refine va_lald hx hb hK hP 34 2 rfl rfl (show ¬ ((0 : Int32) < 0 ∨ 1 ≤ (0 : Int32).toNatClampNeg) from by decide) dL_law_1207 ?_
      refine lv_iload hx hb dL_law_1208 (lv_at hl 0 rfl) ?_
      refine lv_i2l hx hb dL_law_1210 rfl ?_
      refine W.lcmp hx hb dL_law_1211 ?_
      refine lv_if_eq (tgt := 1217) hx hb dL_law_1212 (by decide) (fun c1212 => ?_) (fun c1212 => ?_)
      · have h := h.1 c1212
        refine lv_goto (tgt := 1648) hx hb dL_law_1217 (by decide) ?_
        refine lv_iinc (v := (i + 8)) (lv' := [(4, .int (i + 8)), (6, .int r1184), (5, .int r1172), (0, .ref b), (1, .ref (dA 0)), (2, .ref (mA 0)), (3, .ref (oA 0))]) hx hb dL_law_1648 hl (k := 6) rfl (by first | rfl | decide) (by decide) rfl (fun ls hl => ?_)
        refine lv_goto (tgt := 23) hx hb dL_law_1651 (by decide) ?_
        refine W.widen (k := cells + 210) (n := slots + 6594) (by first | (dsimp only [room_1]; omega) | omega | exact Nat.le_of_ble_eq_true rfl) (by first | (dsimp only [room_1]; omega) | omega | exact Nat.le_of_ble_eq_true rfl) ?_
        exact hk _ _ _ _ _ _ _ hP hD hS _ (lv_sub hl [3, 4, 5, 6, 0] rfl) h
      · have h := h.2 c1212
        refine lv_iconst (v := 0) hx hb dL_law_1215 (by decide) ?_
        exact (show False from h).elim
  · have h := h.2 c1195
    refine lv_iconst (v := 0) hx hb dL_law_1198 (by decide) ?_
    exact (show False from h).elim
def wpLc_1220 (K : Int32 → DS → MS → SS → (Nat → Int64) → Prop) (L : Nat) (xs : Nat → Int32) (i : Int32) (d : DS) (mo : MS) (x : SS) (w : Nat → Int64) : Prop := vp_in (i + 1) L ∧ (wpL_sealOf (fun r1228 d1228 w1228 => vp_in (i + 1) L ∧ (wpX3_sealOf (fun r1240 mo1240 x1240 => wpX3_thrown (fun r1246 => (r1246 = r1228 → (r1228 = 0 → ((lg_cmp (w1228 (0 : Int32).toNatClampNeg) r1240.toInt64) = 0 → K (i + 8) d1228 mo1240 x1240 w1228) ∧ (¬ (lg_cmp (w1228 (0 : Int32).toNatClampNeg) r1240.toInt64) = 0 → False)) ∧ (¬ r1228 = 0 → K (i + 8) d1228 mo1240 x1240 w1228)) ∧ (¬ r1246 = r1228 → False)) mo1240) mo x (xs (i + 1).toNatClampNeg))) d w (xs (i + 1).toNatClampNeg))
set_option maxHeartbeats 4000000 in
set_option maxRecDepth 100000 in
theorem lc_1220 {p : Program} {l : Launch} {e : Env} {s : State} {m : MethodId} {below : List Frame} {meth : Method} {c : Code} {b L : Nat} {xs : Nat → Int32} {D : va_G} {cI cB cJ : ClassId} {dA bA aA tA mA oA : Nat → Nat} {Q : State → Prop} {cells slots : Nat} {K : Int32 → DS → MS → SS → (Nat → Int64) → Prop} (hfl : l.stackTraces = false) (hs0 : zS s) (C : zC D (zty cI cB cJ) p s m #[Value.ref b] meth c cL_law RL ret 9) (hA : ∀ q : Nat, s.heap.size ≤ q → (fun q : Nat => s.heap.size ≤ q) q) (hG : zG s (fun q : Nat => s.heap.size ≤ q) s s.heap) (hX : va_X b L xs s s.heap) (hbl : b < s.heap.size) (hcs : cells + 210 ≤ 635979 ∧ slots + 6594 ≤ 7188166)
    (hk : ∀ (i : Int32) (d : DS) (mo : MS) (x : SS) (w : Nat → Int64) (H : Heap) (locs : List Loc), va_P D vwCl (wD cI dA bA aA tA d ++ wM cI mA mo ++ wS cB (fun _ : Nat => mA 10) x ++ [((oA 0), .inl (cJ, 1, .inr (.inl w)))]) H → va_D (fun q : Nat => s.heap.size ≤ q) (wD cI dA bA aA tA d ++ wM cI mA mo ++ wS cB (fun _ : Nat => mA 10) x ++ [((oA 0), .inl (cJ, 1, .inr (.inl w)))]) → va_S (fun q : Nat => s.heap.size ≤ q) s.heap H locs → ∀ ls : Array Slot, lv_has ls 9 [(0, .ref b), (1, .ref (dA 0)), (2, .ref (mA 0)), (3, .ref (oA 0)), (4, .int i)] → K i d mo x w → W p l e room_1 s m #[Value.ref b] below meth c H locs (cells + 210) (slots + 6594) Q (F0 m 23 ls []))
    (i : Int32) (d : DS) (mo : MS) (x : SS) (w : Nat → Int64) (H : Heap) (locs : List Loc) (hP : va_P D vwCl (wD cI dA bA aA tA d ++ wM cI mA mo ++ wS cB (fun _ : Nat => mA 10) x ++ [((oA 0), .inl (cJ, 1, .inr (.inl w)))]) H) (hD : va_D (fun q : Nat => s.heap.size ≤ q) (wD cI dA bA aA tA d ++ wM cI mA mo ++ wS cB (fun _ : Nat => mA 10) x ++ [((oA 0), .inl (cJ, 1, .inr (.inl w)))])) (hS : va_S (fun q : Nat => s.heap.size ≤ q) s.heap H locs) (ls : Array Slot) (hl : lv_has ls 9 [(0, .ref b), (1, .ref (dA 0)), (2, .ref (mA 0)), (3, .ref (oA 0)), (4, .int i)]) (h : wpLc_1220 K L xs i d mo x w) : W p l e room_1 s m #[Value.ref b] below meth c H locs cells slots Q (F0 m 1220 ls []) := by
  have hx := C.1
  have hb := C.2.1
  have hts := C.2.2.1
  have hown := C.2.2.2.1
  have hml := C.2.2.2.2.2.1
  have hK := C.2.2.2.2.2.2.2
  have hbA : ¬ (fun q : Nat => s.heap.size ≤ q) b := Nat.not_le.mpr hbl
  unfold wpLc_1220 at h
  refine lv_aload_n hx hb dL_law_1220 rfl (lv_at hl 1 rfl) ?_
  refine lv_aload_n hx hb dL_law_1221 rfl (lv_at hl 0 rfl) ?_
  refine lv_iload hx hb dL_law_1222 (lv_at hl 4 rfl) ?_
  refine lv_iconst (v := 1) hx hb dL_law_1224 (by decide) ?_
  refine lv_iadd hx hb dL_law_1225 ?_
  obtain ⟨g9, h⟩ := h
  refine va_sld hx hb hX hbl hbA hS g9 dL_law_1226 ?_
  refine lv_aload_n hx hb dL_law_1227 rfl (lv_at hl 3 rfl) ?_
  refine z_WH (As := [.ref (dA 0), .int (xs (i + 1).toNatClampNeg), .ref (oA 0)]) (rest := []) (wr := (wM cI mA mo ++ wS cB (fun _ : Nat => mA 10) x : va_W)) (wN := (fun u : Int32 × DS × (Nat → Int64) => wD cI dA bA aA tA u.2.1 ++ wM cI mA mo ++ wS cB (fun _ : Nat => mA 10) x ++ [((oA 0), .inl (cJ, 1, .inr (.inl u.2.2)))])) [0, 1, 2, 3, 4, 5, 6, 7, 8, 9, 10, 11, 12, 13, 14, 15, 16, 17, 18, 19, 20, 21, 34] [22, 23, 24, 25, 26, 27, 28, 29, 30, 31, 32, 33] [12, 13, 14, 15, 16, 17, 18, 19, 20, 21, 22, 23, 24, 25, 26, 27, 28, 29, 30, 31, 32, 33, 0, 1, 2, 3, 4, 5, 6, 7, 8, 9, 10, 11, 34] C hG hA hP hD hS (c_L_sealOf hfl hs0 D cI cB cJ dA bA aA tA oA d w (xs (i + 1).toNatClampNeg) h) q752 v_L_sealOf rfl rfl ⟨by decide, by decide, by decide⟩ (by decide) (fun _ => rfl) rfl ⟨(by first | (dsimp only [room_1]; omega) | omega | exact Nat.le_of_ble_eq_true rfl), (by first | (dsimp only [room_1]; omega) | omega | exact Nat.le_of_ble_eq_true rfl)⟩ ⟨(by first | (dsimp only [room_1]; omega) | omega | exact Nat.le_of_ble_eq_true rfl), (by first | (dsimp only [room_1]; omega) | omega | exact Nat.le_of_ble_eq_true rfl)⟩ hl.1 rfl (lv_room (by first | (dsimp only [room_1]; omega) | omega | exact Nat.le_of_ble_eq_true rfl)) dL_law_1228 (fun u H locs h hP hD hS => ?_)
  obtain ⟨r1228, d1228, w1228⟩ := u
  have hP : va_P D vwCl (wD cI dA bA aA tA d1228 ++ wM cI mA mo ++ wS cB (fun _ : Nat => mA 10) x ++ [((oA 0), .inl (cJ, 1, .inr (.inl w1228)))]) H := hP
  have hD : va_D (fun q : Nat => s.heap.size ≤ q) (wD cI dA bA aA tA d1228 ++ wM cI mA mo ++ wS cB (fun _ : Nat => mA 10) x ++ [((oA 0), .inl (cJ, 1, .inr (.inl w1228)))]) := hD
  refine lv_istore (lv' := [(5, .int r1228), (0, .ref b), (1, .ref (dA 0)), (2, .ref (mA 0)), (3, .ref (oA 0)), (4, .int i)]) hx hb dL_law_1231 hl (by decide) rfl (fun ls hl => ?_)
  refine lv_aload_n hx hb dL_law_1233 rfl (lv_at hl 3 rfl) ?_
  refine lv_aload_n hx hb dL_law_1234 rfl (lv_at hl 1 rfl) ?_
  refine lv_iload hx hb dL_law_1235 (lv_at hl 5 rfl) ?_
  refine lv_iconst (v := 1) hx hb dL_law_1237 (by decide) ?_
  refine lv_iadd hx hb dL_law_1238 ?_
  obtain ⟨g9, h⟩ := h
  refine va_sld hx hb hX hbl hbA hS g9 dL_law_1239 ?_
  refine z_WV (As := [.int (xs (i + 1).toNatClampNeg)]) (rest := []) (wr := (wD cI dA bA aA tA d1228 ++ [((oA 0), .inl (cJ, 1, .inr (.inl w1228)))] : va_W)) (wN := (fun u : Int32 × MS × SS => wD cI dA bA aA tA d1228 ++ wM cI mA u.2.1 ++ wS cB (fun _ : Nat => mA 10) u.2.2 ++ [((oA 0), .inl (cJ, 1, .inr (.inl w1228)))])) [22, 23, 24, 25, 26, 27, 28, 29, 30, 31, 32, 33] [0, 1, 2, 3, 4, 5, 6, 7, 8, 9, 10, 11, 12, 13, 14, 15, 16, 17, 18, 19, 20, 21, 34] [0, 1, 2, 3, 4, 5, 6, 7, 8, 9, 10, 11, 12, 13, 14, 15, 16, 17, 18, 19, 20, 21, 23, 24, 25, 26, 27, 28, 29, 30, 31, 32, 33, 34, 22] C hG hA hP hD hS (c_X3_sealOf hfl hs0 D cI cB cJ mA mo x (xs (i + 1).toNatClampNeg) h) q753 v_X3_sealOf rfl rfl ⟨by decide, by decide, by decide⟩ (by decide) (fun _ => rfl) rfl rfl rfl ⟨(by first | (dsimp only [room_1]; omega) | omega | exact Nat.le_of_ble_eq_true rfl), (by first | (dsimp only [room_1]; omega) | omega | exact Nat.le_of_ble_eq_true rfl)⟩ ⟨(by first | (dsimp only [room_1]; omega) | omega | exact Nat.le_of_ble_eq_true rfl), (by first | (dsimp only [room_1]; omega) | omega | exact Nat.le_of_ble_eq_true rfl)⟩ hl.1 rfl (lv_room (by first | (dsimp only [room_1]; omega) | omega | exact Nat.le_of_ble_eq_true rfl)) dL_law_1240 (fun u H locs h hP hD hS => ?_)
  obtain ⟨r1240, mo1240, x1240⟩ := u
  have hP : va_P D vwCl (wD cI dA bA aA tA d1228 ++ wM cI mA mo1240 ++ wS cB (fun _ : Nat => mA 10) x1240 ++ [((oA 0), .inl (cJ, 1, .inr (.inl w1228)))]) H := hP
  have hD : va_D (fun q : Nat => s.heap.size ≤ q) (wD cI dA bA aA tA d1228 ++ wM cI mA mo1240 ++ wS cB (fun _ : Nat => mA 10) x1240 ++ [((oA 0), .inl (cJ, 1, .inr (.inl w1228)))]) := hD
  refine lv_istore (lv' := [(6, .int r1240), (5, .int r1228), (0, .ref b), (1, .ref (dA 0)), (2, .ref (mA 0)), (3, .ref (oA 0)), (4, .int i)]) hx hb dL_law_1243 hl (by decide) rfl (fun ls hl => ?_)
  refine lv_aload_n hx hb dL_law_1245 rfl (lv_at hl 4 rfl) ?_
  refine z_RV (As := []) (rest := []) [22, 23, 24, 25, 26, 27, 28, 29, 30, 31] C (hG.kept hS.1 hS.2.1).none hP (c_X3_thrown hfl hs0 D cI cB cJ mA mo1240 h) q650 v_X3_thrown rfl rfl rfl rfl ⟨(by first | (dsimp only [room_1]; omega) | omega | exact Nat.le_of_ble_eq_true rfl), (by first | (dsimp only [room_1]; omega) | omega | exact Nat.le_of_ble_eq_true rfl)⟩ ⟨(by first | (dsimp only [room_1]; omega) | omega | exact Nat.le_of_ble_eq_true rfl), (by first | (dsimp only [room_1]; omega) | omega | exact Nat.le_of_ble_eq_true rfl)⟩ hl.1 rfl (lv_room (by first | (dsimp only [room_1]; omega) | omega | exact Nat.le_of_ble_eq_true rfl)) dL_law_1246 (fun r1246 h => ?_)
  refine lv_iload hx hb dL_law_1249 (lv_at hl 1 rfl) ?_
  refine lv_icmp_eq (tgt := 1256) hx hb dL_law_1251 (by decide) (fun c1251 => ?_) (fun c1251 => ?_)
  · have h := h.1 c1251
    refine lv_iload hx hb dL_law_1256 (lv_at hl 1 rfl) ?_
    refine lv_if_ne (tgt := 1273) hx hb dL_law_1258 (by decide) (fun c1258 => ?_) (fun c1258 => ?_)
    · have h := h.2 c1258
      refine lv_goto (tgt := 1648) hx hb dL_law_1273 (by decide) ?_
      refine lv_iinc (v := (i + 8)) (lv' := [(4, .int (i + 8)), (6, .int r1240), (5, .int r1228), (0, .ref b), (1, .ref (dA 0)), (2, .ref (mA 0)), (3, .ref (oA 0))]) hx hb dL_law_1648 hl (k := 6) rfl (by first | rfl | decide) (by decide) rfl (fun ls hl => ?_)
      refine lv_goto (tgt := 23) hx hb dL_law_1651 (by decide) ?_
      refine W.widen (k := cells + 210) (n := slots + 6594) (by first | (dsimp only [room_1]; omega) | omega | exact Nat.le_of_ble_eq_true rfl) (by first | (dsimp only [room_1]; omega) | omega | exact Nat.le_of_ble_eq_true rfl) ?_
      exact hk _ _ _ _ _ _ _ hP hD hS _ (lv_sub hl [3, 4, 5, 6, 0] rfl) h
    · have h := h.1 c1258
      refine lv_aload_n hx hb dL_law_1261 rfl (lv_at hl 5 rfl) ?_
      refine lv_iconst (v := 0) hx hb dL_law_1262 (by decide) ?_
      refine va_lald hx hb hK hP 34 2 rfl rfl (show ¬ ((0 : Int32) < 0 ∨ 1 ≤ (0 : Int32).toNatClampNeg) from by decide) dL_law_1263 ?_
      refine lv_iload hx hb dL_law_1264 (lv_at hl 0 rfl) ?_
      refine lv_i2l hx hb dL_law_1266 rfl ?_
      refine W.lcmp hx hb dL_law_1267 ?_
      refine lv_if_eq (tgt := 1273) hx hb dL_law_1268 (by decide) (fun c1268 => ?_) (fun c1268 => ?_)
      · have h := h.1 c1268
        refine lv_goto (tgt := 1648) hx hb dL_law_1273 (by decide) ?_
        refine lv_iinc (v := (i + 8)) (lv' := [(4, .int (i + 8)), (6, .int r1240), (5, .int r1228), (0, .ref b), (1, .ref (dA 0)), (2, .ref (mA 0)), (3, .ref (oA 0))]) hx hb dL_law_1648 hl (k := 6) rfl (by first | rfl | decide) (by decide) rfl (fun ls hl => ?_)
        refine lv_goto (tgt := 23) hx hb dL_law_1651 (by decide) ?_
        refine W.widen (k := cells + 210) (n := slots + 6594) (by first | (dsimp only [room_1]; omega) | omega | exact Nat.le_of_ble_eq_true rfl) (by first | (dsimp only [room_1]; omega) | omega | exact Nat.le_of_ble_eq_true rfl) ?_
        exact hk _ _ _ _ _ _ _ hP hD hS _ (lv_sub hl [3, 4, 5, 6, 0] rfl) h
      · have h := h.2 c1268
        refine lv_iconst (v := 0) hx hb dL_law_1271 (by decide) ?_
        exact (show False from h).elim
  · have h := h.2 c1251
    refine lv_iconst (v := 0) hx hb dL_law_1254 (by decide) ?_
    exact (show False from h).elim
def wpLc_1276 (K : Int32 → DS → MS → SS → (Nat → Int64) → Prop) (L : Nat) (xs : Nat → Int32) (i : Int32) (d : DS) (mo : MS) (x : SS) (w : Nat → Int64) : Prop := vp_in (i + 1) L ∧ (wpL_owes (fun r1284 d1284 w1284 => vp_in (i + 1) L ∧ (wpX3_owes (fun r1296 mo1296 => wpX3_thrown (fun r1302 => (r1302 = r1284 → (r1284 = 0 → ((lg_cmp (w1284 (0 : Int32).toNatClampNeg) r1296.toInt64) = 0 → K (i + 8) d1284 mo1296 x w1284) ∧ (¬ (lg_cmp (w1284 (0 : Int32).toNatClampNeg) r1296.toInt64) = 0 → False)) ∧ (¬ r1284 = 0 → K (i + 8) d1284 mo1296 x w1284)) ∧ (¬ r1302 = r1284 → False)) mo1296) mo (xs (i + 1).toNatClampNeg))) d w (xs (i + 1).toNatClampNeg))
set_option maxHeartbeats 4000000 in
set_option maxRecDepth 100000 in
theorem lc_1276 {p : Program} {l : Launch} {e : Env} {s : State} {m : MethodId} {below : List Frame} {meth : Method} {c : Code} {b L : Nat} {xs : Nat → Int32} {D : va_G} {cI cB cJ : ClassId} {dA bA aA tA mA oA : Nat → Nat} {Q : State → Prop} {cells slots : Nat} {K : Int32 → DS → MS → SS → (Nat → Int64) → Prop} (hfl : l.stackTraces = false) (hs0 : zS s) (C : zC D (zty cI cB cJ) p s m #[Value.ref b] meth c cL_law RL ret 9) (hA : ∀ q : Nat, s.heap.size ≤ q → (fun q : Nat => s.heap.size ≤ q) q) (hG : zG s (fun q : Nat => s.heap.size ≤ q) s s.heap) (hX : va_X b L xs s s.heap) (hbl : b < s.heap.size) (hcs : cells + 210 ≤ 635979 ∧ slots + 6594 ≤ 7188166)
    (hk : ∀ (i : Int32) (d : DS) (mo : MS) (x : SS) (w : Nat → Int64) (H : Heap) (locs : List Loc), va_P D vwCl (wD cI dA bA aA tA d ++ wM cI mA mo ++ wS cB (fun _ : Nat => mA 10) x ++ [((oA 0), .inl (cJ, 1, .inr (.inl w)))]) H → va_D (fun q : Nat => s.heap.size ≤ q) (wD cI dA bA aA tA d ++ wM cI mA mo ++ wS cB (fun _ : Nat => mA 10) x ++ [((oA 0), .inl (cJ, 1, .inr (.inl w)))]) → va_S (fun q : Nat => s.heap.size ≤ q) s.heap H locs → ∀ ls : Array Slot, lv_has ls 9 [(0, .ref b), (1, .ref (dA 0)), (2, .ref (mA 0)), (3, .ref (oA 0)), (4, .int i)] → K i d mo x w → W p l e room_1 s m #[Value.ref b] below meth c H locs (cells + 210) (slots + 6594) Q (F0 m 23 ls []))
    (i : Int32) (d : DS) (mo : MS) (x : SS) (w : Nat → Int64) (H : Heap) (locs : List Loc) (hP : va_P D vwCl (wD cI dA bA aA tA d ++ wM cI mA mo ++ wS cB (fun _ : Nat => mA 10) x ++ [((oA 0), .inl (cJ, 1, .inr (.inl w)))]) H) (hD : va_D (fun q : Nat => s.heap.size ≤ q) (wD cI dA bA aA tA d ++ wM cI mA mo ++ wS cB (fun _ : Nat => mA 10) x ++ [((oA 0), .inl (cJ, 1, .inr (.inl w)))])) (hS : va_S (fun q : Nat => s.heap.size ≤ q) s.heap H locs) (ls : Array Slot) (hl : lv_has ls 9 [(0, .ref b), (1, .ref (dA 0)), (2, .ref (mA 0)), (3, .ref (oA 0)), (4, .int i)]) (h : wpLc_1276 K L xs i d mo x w) : W p l e room_1 s m #[Value.ref b] below meth c H locs cells slots Q (F0 m 1276 ls []) := by
  have hx := C.1
  have hb := C.2.1
  have hts := C.2.2.1
  have hown := C.2.2.2.1
  have hml := C.2.2.2.2.2.1
  have hK := C.2.2.2.2.2.2.2
  have hbA : ¬ (fun q : Nat => s.heap.size ≤ q) b := Nat.not_le.mpr hbl
  unfold wpLc_1276 at h
  refine lv_aload_n hx hb dL_law_1276 rfl (lv_at hl 1 rfl) ?_
  refine lv_aload_n hx hb dL_law_1277 rfl (lv_at hl 0 rfl) ?_
  refine lv_iload hx hb dL_law_1278 (lv_at hl 4 rfl) ?_
  refine lv_iconst (v := 1) hx hb dL_law_1280 (by decide) ?_
  refine lv_iadd hx hb dL_law_1281 ?_
  obtain ⟨g9, h⟩ := h
  refine va_sld hx hb hX hbl hbA hS g9 dL_law_1282 ?_
  refine lv_aload_n hx hb dL_law_1283 rfl (lv_at hl 3 rfl) ?_
  refine z_WH (As := [.ref (dA 0), .int (xs (i + 1).toNatClampNeg), .ref (oA 0)]) (rest := []) (wr := (wM cI mA mo ++ wS cB (fun _ : Nat => mA 10) x : va_W)) (wN := (fun u : Int32 × DS × (Nat → Int64) => wD cI dA bA aA tA u.2.1 ++ wM cI mA mo ++ wS cB (fun _ : Nat => mA 10) x ++ [((oA 0), .inl (cJ, 1, .inr (.inl u.2.2)))])) [0, 1, 2, 3, 4, 5, 6, 7, 8, 9, 10, 11, 12, 13, 14, 15, 16, 17, 18, 19, 20, 21, 34] [22, 23, 24, 25, 26, 27, 28, 29, 30, 31, 32, 33] [12, 13, 14, 15, 16, 17, 18, 19, 20, 21, 22, 23, 24, 25, 26, 27, 28, 29, 30, 31, 32, 33, 0, 1, 2, 3, 4, 5, 6, 7, 8, 9, 10, 11, 34] C hG hA hP hD hS (c_L_owes hfl hs0 D cI cB cJ dA bA aA tA oA d w (xs (i + 1).toNatClampNeg) h) q757 v_L_owes rfl rfl ⟨by decide, by decide, by decide⟩ (by decide) (fun _ => rfl) rfl ⟨(by first | (dsimp only [room_1]; omega) | omega | exact Nat.le_of_ble_eq_true rfl), (by first | (dsimp only [room_1]; omega) | omega | exact Nat.le_of_ble_eq_true rfl)⟩ ⟨(by first | (dsimp only [room_1]; omega) | omega | exact Nat.le_of_ble_eq_true rfl), (by first | (dsimp only [room_1]; omega) | omega | exact Nat.le_of_ble_eq_true rfl)⟩ hl.1 rfl (lv_room (by first | (dsimp only [room_1]; omega) | omega | exact Nat.le_of_ble_eq_true rfl)) dL_law_1284 (fun u H locs h hP hD hS => ?_)
  obtain ⟨r1284, d1284, w1284⟩ := u
  have hP : va_P D vwCl (wD cI dA bA aA tA d1284 ++ wM cI mA mo ++ wS cB (fun _ : Nat => mA 10) x ++ [((oA 0), .inl (cJ, 1, .inr (.inl w1284)))]) H := hP
  have hD : va_D (fun q : Nat => s.heap.size ≤ q) (wD cI dA bA aA tA d1284 ++ wM cI mA mo ++ wS cB (fun _ : Nat => mA 10) x ++ [((oA 0), .inl (cJ, 1, .inr (.inl w1284)))]) := hD
  refine lv_istore (lv' := [(5, .int r1284), (0, .ref b), (1, .ref (dA 0)), (2, .ref (mA 0)), (3, .ref (oA 0)), (4, .int i)]) hx hb dL_law_1287 hl (by decide) rfl (fun ls hl => ?_)
  refine lv_aload_n hx hb dL_law_1289 rfl (lv_at hl 3 rfl) ?_
  refine lv_aload_n hx hb dL_law_1290 rfl (lv_at hl 1 rfl) ?_
  refine lv_iload hx hb dL_law_1291 (lv_at hl 5 rfl) ?_
  refine lv_iconst (v := 1) hx hb dL_law_1293 (by decide) ?_
  refine lv_iadd hx hb dL_law_1294 ?_
  obtain ⟨g9, h⟩ := h
  refine va_sld hx hb hX hbl hbA hS g9 dL_law_1295 ?_
  refine z_WV (As := [.int (xs (i + 1).toNatClampNeg)]) (rest := []) (wr := (wD cI dA bA aA tA d1284 ++ wS cB (fun _ : Nat => mA 10) x ++ [((oA 0), .inl (cJ, 1, .inr (.inl w1284)))] : va_W)) (wN := (fun u : Int32 × MS => wD cI dA bA aA tA d1284 ++ wM cI mA u.2 ++ wS cB (fun _ : Nat => mA 10) x ++ [((oA 0), .inl (cJ, 1, .inr (.inl w1284)))])) [22, 23, 24, 25, 26, 27, 28, 29, 30, 31] [0, 1, 2, 3, 4, 5, 6, 7, 8, 9, 10, 11, 12, 13, 14, 15, 16, 17, 18, 19, 20, 21, 32, 33, 34] [0, 1, 2, 3, 4, 5, 6, 7, 8, 9, 10, 11, 12, 13, 14, 15, 16, 17, 18, 19, 20, 21, 25, 26, 27, 28, 29, 30, 31, 32, 33, 34, 22, 23, 24] C hG hA hP hD hS (c_X3_owes hfl hs0 D cI cB cJ mA mo (xs (i + 1).toNatClampNeg) h) q758 v_X3_owes rfl rfl ⟨by decide, by decide, by decide⟩ (by decide) (fun _ => rfl) rfl rfl rfl ⟨(by first | (dsimp only [room_1]; omega) | omega | exact Nat.le_of_ble_eq_true rfl), (by first | (dsimp only [room_1]; omega) | omega | exact Nat.le_of_ble_eq_true rfl)⟩ ⟨(by first | (dsimp only [room_1]; omega) | omega | exact Nat.le_of_ble_eq_true rfl), (by first | (dsimp only [room_1]; omega) | omega | exact Nat.le_of_ble_eq_true rfl)⟩ hl.1 rfl (lv_room (by first | (dsimp only [room_1]; omega) | omega | exact Nat.le_of_ble_eq_true rfl)) dL_law_1296 (fun u H locs h hP hD hS => ?_)
  obtain ⟨r1296, mo1296⟩ := u
  have hP : va_P D vwCl (wD cI dA bA aA tA d1284 ++ wM cI mA mo1296 ++ wS cB (fun _ : Nat => mA 10) x ++ [((oA 0), .inl (cJ, 1, .inr (.inl w1284)))]) H := hP
  have hD : va_D (fun q : Nat => s.heap.size ≤ q) (wD cI dA bA aA tA d1284 ++ wM cI mA mo1296 ++ wS cB (fun _ : Nat => mA 10) x ++ [((oA 0), .inl (cJ, 1, .inr (.inl w1284)))]) := hD
  refine lv_istore (lv' := [(6, .int r1296), (5, .int r1284), (0, .ref b), (1, .ref (dA 0)), (2, .ref (mA 0)), (3, .ref (oA 0)), (4, .int i)]) hx hb dL_law_1299 hl (by decide) rfl (fun ls hl => ?_)
  refine lv_aload_n hx hb dL_law_1301 rfl (lv_at hl 4 rfl) ?_
  refine z_RV (As := []) (rest := []) [22, 23, 24, 25, 26, 27, 28, 29, 30, 31] C (hG.kept hS.1 hS.2.1).none hP (c_X3_thrown hfl hs0 D cI cB cJ mA mo1296 h) q650 v_X3_thrown rfl rfl rfl rfl ⟨(by first | (dsimp only [room_1]; omega) | omega | exact Nat.le_of_ble_eq_true rfl), (by first | (dsimp only [room_1]; omega) | omega | exact Nat.le_of_ble_eq_true rfl)⟩ ⟨(by first | (dsimp only [room_1]; omega) | omega | exact Nat.le_of_ble_eq_true rfl), (by first | (dsimp only [room_1]; omega) | omega | exact Nat.le_of_ble_eq_true rfl)⟩ hl.1 rfl (lv_room (by first | (dsimp only [room_1]; omega) | omega | exact Nat.le_of_ble_eq_true rfl)) dL_law_1302 (fun r1302 h => ?_)
  refine lv_iload hx hb dL_law_1305 (lv_at hl 1 rfl) ?_
  refine lv_icmp_eq (tgt := 1312) hx hb dL_law_1307 (by decide) (fun c1307 => ?_) (fun c1307 => ?_)
  · have h := h.1 c1307
    refine lv_iload hx hb dL_law_1312 (lv_at hl 1 rfl) ?_
    refine lv_if_ne (tgt := 1329) hx hb dL_law_1314 (by decide) (fun c1314 => ?_) (fun c1314 => ?_)
    · have h := h.2 c1314
      refine lv_goto (tgt := 1648) hx hb dL_law_1329 (by decide) ?_
      refine lv_iinc (v := (i + 8)) (lv' := [(4, .int (i + 8)), (6, .int r1296), (5, .int r1284), (0, .ref b), (1, .ref (dA 0)), (2, .ref (mA 0)), (3, .ref (oA 0))]) hx hb dL_law_1648 hl (k := 6) rfl (by first | rfl | decide) (by decide) rfl (fun ls hl => ?_)
      refine lv_goto (tgt := 23) hx hb dL_law_1651 (by decide) ?_
      refine W.widen (k := cells + 210) (n := slots + 6594) (by first | (dsimp only [room_1]; omega) | omega | exact Nat.le_of_ble_eq_true rfl) (by first | (dsimp only [room_1]; omega) | omega | exact Nat.le_of_ble_eq_true rfl) ?_
      exact hk _ _ _ _ _ _ _ hP hD hS _ (lv_sub hl [3, 4, 5, 6, 0] rfl) h
    · have h := h.1 c1314
      refine lv_aload_n hx hb dL_law_1317 rfl (lv_at hl 5 rfl) ?_
      refine lv_iconst (v := 0) hx hb dL_law_1318 (by decide) ?_
      refine va_lald hx hb hK hP 34 2 rfl rfl (show ¬ ((0 : Int32) < 0 ∨ 1 ≤ (0 : Int32).toNatClampNeg) from by decide) dL_law_1319 ?_
      refine lv_iload hx hb dL_law_1320 (lv_at hl 0 rfl) ?_
      refine lv_i2l hx hb dL_law_1322 rfl ?_
      refine W.lcmp hx hb dL_law_1323 ?_
      refine lv_if_eq (tgt := 1329) hx hb dL_law_1324 (by decide) (fun c1324 => ?_) (fun c1324 => ?_)
      · have h := h.1 c1324
        refine lv_goto (tgt := 1648) hx hb dL_law_1329 (by decide) ?_
        refine lv_iinc (v := (i + 8)) (lv' := [(4, .int (i + 8)), (6, .int r1296), (5, .int r1284), (0, .ref b), (1, .ref (dA 0)), (2, .ref (mA 0)), (3, .ref (oA 0))]) hx hb dL_law_1648 hl (k := 6) rfl (by first | rfl | decide) (by decide) rfl (fun ls hl => ?_)
        refine lv_goto (tgt := 23) hx hb dL_law_1651 (by decide) ?_
        refine W.widen (k := cells + 210) (n := slots + 6594) (by first | (dsimp only [room_1]; omega) | omega | exact Nat.le_of_ble_eq_true rfl) (by first | (dsimp only [room_1]; omega) | omega | exact Nat.le_of_ble_eq_true rfl) ?_
        exact hk _ _ _ _ _ _ _ hP hD hS _ (lv_sub hl [3, 4, 5, 6, 0] rfl) h
      · have h := h.2 c1324
        refine lv_iconst (v := 0) hx hb dL_law_1327 (by decide) ?_
        exact (show False from h).elim
  · have h := h.2 c1307
    refine lv_iconst (v := 0) hx hb dL_law_1310 (by decide) ?_
    exact (show False from h).elim
def wpLc_1332 (K : Int32 → DS → MS → SS → (Nat → Int64) → Prop) (L : Nat) (xs : Nat → Int32) (i : Int32) (d : DS) (mo : MS) (x : SS) (w : Nat → Int64) : Prop := vp_in (i + 1) L ∧ (vp_in (i + 2) L ∧ (wpL_balance (fun r1346 d1346 w1346 => vp_in (i + 1) L ∧ (vp_in (i + 2) L ∧ (wpX3_balance (fun r1364 mo1364 => wpX3_thrown (fun r1370 => (r1370 = r1346 → (r1346 = 0 → ((lg_cmp (w1346 (0 : Int32).toNatClampNeg) r1364.toInt64) = 0 → K (i + 8) d1346 mo1364 x w1346) ∧ (¬ (lg_cmp (w1346 (0 : Int32).toNatClampNeg) r1364.toInt64) = 0 → False)) ∧ (¬ r1346 = 0 → K (i + 8) d1346 mo1364 x w1346)) ∧ (¬ r1370 = r1346 → False)) mo1364) mo (xs (i + 1).toNatClampNeg) (xs (i + 2).toNatClampNeg)))) d w (xs (i + 1).toNatClampNeg) (xs (i + 2).toNatClampNeg)))
set_option maxHeartbeats 4000000 in
set_option maxRecDepth 100000 in
theorem lc_1332 {p : Program} {l : Launch} {e : Env} {s : State} {m : MethodId} {below : List Frame} {meth : Method} {c : Code} {b L : Nat} {xs : Nat → Int32} {D : va_G} {cI cB cJ : ClassId} {dA bA aA tA mA oA : Nat → Nat} {Q : State → Prop} {cells slots : Nat} {K : Int32 → DS → MS → SS → (Nat → Int64) → Prop} (hfl : l.stackTraces = false) (hs0 : zS s) (C : zC D (zty cI cB cJ) p s m #[Value.ref b] meth c cL_law RL ret 9) (hA : ∀ q : Nat, s.heap.size ≤ q → (fun q : Nat => s.heap.size ≤ q) q) (hG : zG s (fun q : Nat => s.heap.size ≤ q) s s.heap) (hX : va_X b L xs s s.heap) (hbl : b < s.heap.size) (hcs : cells + 210 ≤ 635979 ∧ slots + 6594 ≤ 7188166)
    (hk : ∀ (i : Int32) (d : DS) (mo : MS) (x : SS) (w : Nat → Int64) (H : Heap) (locs : List Loc), va_P D vwCl (wD cI dA bA aA tA d ++ wM cI mA mo ++ wS cB (fun _ : Nat => mA 10) x ++ [((oA 0), .inl (cJ, 1, .inr (.inl w)))]) H → va_D (fun q : Nat => s.heap.size ≤ q) (wD cI dA bA aA tA d ++ wM cI mA mo ++ wS cB (fun _ : Nat => mA 10) x ++ [((oA 0), .inl (cJ, 1, .inr (.inl w)))]) → va_S (fun q : Nat => s.heap.size ≤ q) s.heap H locs → ∀ ls : Array Slot, lv_has ls 9 [(0, .ref b), (1, .ref (dA 0)), (2, .ref (mA 0)), (3, .ref (oA 0)), (4, .int i)] → K i d mo x w → W p l e room_1 s m #[Value.ref b] below meth c H locs (cells + 210) (slots + 6594) Q (F0 m 23 ls []))
    (i : Int32) (d : DS) (mo : MS) (x : SS) (w : Nat → Int64) (H : Heap) (locs : List Loc) (hP : va_P D vwCl (wD cI dA bA aA tA d ++ wM cI mA mo ++ wS cB (fun _ : Nat => mA 10) x ++ [((oA 0), .inl (cJ, 1, .inr (.inl w)))]) H) (hD : va_D (fun q : Nat => s.heap.size ≤ q) (wD cI dA bA aA tA d ++ wM cI mA mo ++ wS cB (fun _ : Nat => mA 10) x ++ [((oA 0), .inl (cJ, 1, .inr (.inl w)))])) (hS : va_S (fun q : Nat => s.heap.size ≤ q) s.heap H locs) (ls : Array Slot) (hl : lv_has ls 9 [(0, .ref b), (1, .ref (dA 0)), (2, .ref (mA 0)), (3, .ref (oA 0)), (4, .int i)]) (h : wpLc_1332 K L xs i d mo x w) : W p l e room_1 s m #[Value.ref b] below meth c H locs cells slots Q (F0 m 1332 ls []) := by
  have hx := C.1
  have hb := C.2.1
  have hts := C.2.2.1
  have hown := C.2.2.2.1
  have hml := C.2.2.2.2.2.1
  have hK := C.2.2.2.2.2.2.2
  have hbA : ¬ (fun q : Nat => s.heap.size ≤ q) b := Nat.not_le.mpr hbl
  unfold wpLc_1332 at h
  refine lv_aload_n hx hb dL_law_1332 rfl (lv_at hl 1 rfl) ?_
  refine lv_aload_n hx hb dL_law_1333 rfl (lv_at hl 0 rfl) ?_
  refine lv_iload hx hb dL_law_1334 (lv_at hl 4 rfl) ?_
  refine lv_iconst (v := 1) hx hb dL_law_1336 (by decide) ?_
  refine lv_iadd hx hb dL_law_1337 ?_
  obtain ⟨g9, h⟩ := h
  refine va_sld hx hb hX hbl hbA hS g9 dL_law_1338 ?_
  refine lv_aload_n hx hb dL_law_1339 rfl (lv_at hl 0 rfl) ?_
  refine lv_iload hx hb dL_law_1340 (lv_at hl 4 rfl) ?_
  refine lv_iconst (v := 2) hx hb dL_law_1342 (by decide) ?_
  refine lv_iadd hx hb dL_law_1343 ?_
  obtain ⟨g9, h⟩ := h
  refine va_sld hx hb hX hbl hbA hS g9 dL_law_1344 ?_
  refine lv_aload_n hx hb dL_law_1345 rfl (lv_at hl 3 rfl) ?_
  refine z_WH (As := [.ref (dA 0), .int (xs (i + 1).toNatClampNeg), .int (xs (i + 2).toNatClampNeg), .ref (oA 0)]) (rest := []) (wr := (wM cI mA mo ++ wS cB (fun _ : Nat => mA 10) x : va_W)) (wN := (fun u : Int32 × DS × (Nat → Int64) => wD cI dA bA aA tA u.2.1 ++ wM cI mA mo ++ wS cB (fun _ : Nat => mA 10) x ++ [((oA 0), .inl (cJ, 1, .inr (.inl u.2.2)))])) [0, 1, 2, 3, 4, 5, 6, 7, 8, 9, 10, 11, 12, 13, 14, 15, 16, 17, 18, 19, 20, 21, 34] [22, 23, 24, 25, 26, 27, 28, 29, 30, 31, 32, 33] [12, 13, 14, 15, 16, 17, 18, 19, 20, 21, 22, 23, 24, 25, 26, 27, 28, 29, 30, 31, 32, 33, 0, 1, 2, 3, 4, 5, 6, 7, 8, 9, 10, 11, 34] C hG hA hP hD hS (c_L_balance hfl hs0 D cI cB cJ dA bA aA tA oA d w (xs (i + 1).toNatClampNeg) (xs (i + 2).toNatClampNeg) h) q762 v_L_balance rfl rfl ⟨by decide, by decide, by decide⟩ (by decide) (fun _ => rfl) rfl ⟨(by first | (dsimp only [room_1]; omega) | omega | exact Nat.le_of_ble_eq_true rfl), (by first | (dsimp only [room_1]; omega) | omega | exact Nat.le_of_ble_eq_true rfl)⟩ ⟨(by first | (dsimp only [room_1]; omega) | omega | exact Nat.le_of_ble_eq_true rfl), (by first | (dsimp only [room_1]; omega) | omega | exact Nat.le_of_ble_eq_true rfl)⟩ hl.1 rfl (lv_room (by first | (dsimp only [room_1]; omega) | omega | exact Nat.le_of_ble_eq_true rfl)) dL_law_1346 (fun u H locs h hP hD hS => ?_)
  obtain ⟨r1346, d1346, w1346⟩ := u
  have hP : va_P D vwCl (wD cI dA bA aA tA d1346 ++ wM cI mA mo ++ wS cB (fun _ : Nat => mA 10) x ++ [((oA 0), .inl (cJ, 1, .inr (.inl w1346)))]) H := hP
  have hD : va_D (fun q : Nat => s.heap.size ≤ q) (wD cI dA bA aA tA d1346 ++ wM cI mA mo ++ wS cB (fun _ : Nat => mA 10) x ++ [((oA 0), .inl (cJ, 1, .inr (.inl w1346)))]) := hD
  refine lv_istore (lv' := [(5, .int r1346), (0, .ref b), (1, .ref (dA 0)), (2, .ref (mA 0)), (3, .ref (oA 0)), (4, .int i)]) hx hb dL_law_1349 hl (by decide) rfl (fun ls hl => ?_)
  refine lv_aload_n hx hb dL_law_1351 rfl (lv_at hl 3 rfl) ?_
  refine lv_aload_n hx hb dL_law_1352 rfl (lv_at hl 1 rfl) ?_
  refine lv_iload hx hb dL_law_1353 (lv_at hl 5 rfl) ?_
  refine lv_iconst (v := 1) hx hb dL_law_1355 (by decide) ?_
  refine lv_iadd hx hb dL_law_1356 ?_
  obtain ⟨g9, h⟩ := h
  refine va_sld hx hb hX hbl hbA hS g9 dL_law_1357 ?_
  refine lv_aload_n hx hb dL_law_1358 rfl (lv_at hl 1 rfl) ?_
  refine lv_iload hx hb dL_law_1359 (lv_at hl 5 rfl) ?_
  refine lv_iconst (v := 2) hx hb dL_law_1361 (by decide) ?_
  refine lv_iadd hx hb dL_law_1362 ?_
  obtain ⟨g9, h⟩ := h
  refine va_sld hx hb hX hbl hbA hS g9 dL_law_1363 ?_
  refine z_WV (As := [.int (xs (i + 1).toNatClampNeg), .int (xs (i + 2).toNatClampNeg)]) (rest := []) (wr := (wD cI dA bA aA tA d1346 ++ wS cB (fun _ : Nat => mA 10) x ++ [((oA 0), .inl (cJ, 1, .inr (.inl w1346)))] : va_W)) (wN := (fun u : Int32 × MS => wD cI dA bA aA tA d1346 ++ wM cI mA u.2 ++ wS cB (fun _ : Nat => mA 10) x ++ [((oA 0), .inl (cJ, 1, .inr (.inl w1346)))])) [22, 23, 24, 25, 26, 27, 28, 29, 30, 31] [0, 1, 2, 3, 4, 5, 6, 7, 8, 9, 10, 11, 12, 13, 14, 15, 16, 17, 18, 19, 20, 21, 32, 33, 34] [0, 1, 2, 3, 4, 5, 6, 7, 8, 9, 10, 11, 12, 13, 14, 15, 16, 17, 18, 19, 20, 21, 25, 26, 27, 28, 29, 30, 31, 32, 33, 34, 22, 23, 24] C hG hA hP hD hS (c_X3_balance hfl hs0 D cI cB cJ mA mo (xs (i + 1).toNatClampNeg) (xs (i + 2).toNatClampNeg) h) q763 v_X3_balance rfl rfl ⟨by decide, by decide, by decide⟩ (by decide) (fun _ => rfl) rfl rfl rfl ⟨(by first | (dsimp only [room_1]; omega) | omega | exact Nat.le_of_ble_eq_true rfl), (by first | (dsimp only [room_1]; omega) | omega | exact Nat.le_of_ble_eq_true rfl)⟩ ⟨(by first | (dsimp only [room_1]; omega) | omega | exact Nat.le_of_ble_eq_true rfl), (by first | (dsimp only [room_1]; omega) | omega | exact Nat.le_of_ble_eq_true rfl)⟩ hl.1 rfl (lv_room (by first | (dsimp only [room_1]; omega) | omega | exact Nat.le_of_ble_eq_true rfl)) dL_law_1364 (fun u H locs h hP hD hS => ?_)
  obtain ⟨r1364, mo1364⟩ := u
  have hP : va_P D vwCl (wD cI dA bA aA tA d1346 ++ wM cI mA mo1364 ++ wS cB (fun _ : Nat => mA 10) x ++ [((oA 0), .inl (cJ, 1, .inr (.inl w1346)))]) H := hP
  have hD : va_D (fun q : Nat => s.heap.size ≤ q) (wD cI dA bA aA tA d1346 ++ wM cI mA mo1364 ++ wS cB (fun _ : Nat => mA 10) x ++ [((oA 0), .inl (cJ, 1, .inr (.inl w1346)))]) := hD
  refine lv_istore (lv' := [(6, .int r1364), (5, .int r1346), (0, .ref b), (1, .ref (dA 0)), (2, .ref (mA 0)), (3, .ref (oA 0)), (4, .int i)]) hx hb dL_law_1367 hl (by decide) rfl (fun ls hl => ?_)
  refine lv_aload_n hx hb dL_law_1369 rfl (lv_at hl 4 rfl) ?_
  refine z_RV (As := []) (rest := []) [22, 23, 24, 25, 26, 27, 28, 29, 30, 31] C (hG.kept hS.1 hS.2.1).none hP (c_X3_thrown hfl hs0 D cI cB cJ mA mo1364 h) q650 v_X3_thrown rfl rfl rfl rfl ⟨(by first | (dsimp only [room_1]; omega) | omega | exact Nat.le_of_ble_eq_true rfl), (by first | (dsimp only [room_1]; omega) | omega | exact Nat.le_of_ble_eq_true rfl)⟩ ⟨(by first | (dsimp only [room_1]; omega) | omega | exact Nat.le_of_ble_eq_true rfl), (by first | (dsimp only [room_1]; omega) | omega | exact Nat.le_of_ble_eq_true rfl)⟩ hl.1 rfl (lv_room (by first | (dsimp only [room_1]; omega) | omega | exact Nat.le_of_ble_eq_true rfl)) dL_law_1370 (fun r1370 h => ?_)
  refine lv_iload hx hb dL_law_1373 (lv_at hl 1 rfl) ?_
  refine lv_icmp_eq (tgt := 1380) hx hb dL_law_1375 (by decide) (fun c1375 => ?_) (fun c1375 => ?_)
  · have h := h.1 c1375
    refine lv_iload hx hb dL_law_1380 (lv_at hl 1 rfl) ?_
    refine lv_if_ne (tgt := 1397) hx hb dL_law_1382 (by decide) (fun c1382 => ?_) (fun c1382 => ?_)
    · have h := h.2 c1382
      refine lv_goto (tgt := 1648) hx hb dL_law_1397 (by decide) ?_
      refine lv_iinc (v := (i + 8)) (lv' := [(4, .int (i + 8)), (6, .int r1364), (5, .int r1346), (0, .ref b), (1, .ref (dA 0)), (2, .ref (mA 0)), (3, .ref (oA 0))]) hx hb dL_law_1648 hl (k := 6) rfl (by first | rfl | decide) (by decide) rfl (fun ls hl => ?_)
      refine lv_goto (tgt := 23) hx hb dL_law_1651 (by decide) ?_
      refine W.widen (k := cells + 210) (n := slots + 6594) (by first | (dsimp only [room_1]; omega) | omega | exact Nat.le_of_ble_eq_true rfl) (by first | (dsimp only [room_1]; omega) | omega | exact Nat.le_of_ble_eq_true rfl) ?_
      exact hk _ _ _ _ _ _ _ hP hD hS _ (lv_sub hl [3, 4, 5, 6, 0] rfl) h
    · have h := h.1 c1382
      refine lv_aload_n hx hb dL_law_1385 rfl (lv_at hl 5 rfl) ?_
      refine lv_iconst (v := 0) hx hb dL_law_1386 (by decide) ?_
      refine va_lald hx hb hK hP 34 2 rfl rfl (show ¬ ((0 : Int32) < 0 ∨ 1 ≤ (0 : Int32).toNatClampNeg) from by decide) dL_law_1387 ?_
      refine lv_iload hx hb dL_law_1388 (lv_at hl 0 rfl) ?_
      refine lv_i2l hx hb dL_law_1390 rfl ?_
      refine W.lcmp hx hb dL_law_1391 ?_
      refine lv_if_eq (tgt := 1397) hx hb dL_law_1392 (by decide) (fun c1392 => ?_) (fun c1392 => ?_)
      · have h := h.1 c1392
        refine lv_goto (tgt := 1648) hx hb dL_law_1397 (by decide) ?_
        refine lv_iinc (v := (i + 8)) (lv' := [(4, .int (i + 8)), (6, .int r1364), (5, .int r1346), (0, .ref b), (1, .ref (dA 0)), (2, .ref (mA 0)), (3, .ref (oA 0))]) hx hb dL_law_1648 hl (k := 6) rfl (by first | rfl | decide) (by decide) rfl (fun ls hl => ?_)
        refine lv_goto (tgt := 23) hx hb dL_law_1651 (by decide) ?_
        refine W.widen (k := cells + 210) (n := slots + 6594) (by first | (dsimp only [room_1]; omega) | omega | exact Nat.le_of_ble_eq_true rfl) (by first | (dsimp only [room_1]; omega) | omega | exact Nat.le_of_ble_eq_true rfl) ?_
        exact hk _ _ _ _ _ _ _ hP hD hS _ (lv_sub hl [3, 4, 5, 6, 0] rfl) h
      · have h := h.2 c1392
        refine lv_iconst (v := 0) hx hb dL_law_1395 (by decide) ?_
        exact (show False from h).elim
  · have h := h.2 c1375
    refine lv_iconst (v := 0) hx hb dL_law_1378 (by decide) ?_
    exact (show False from h).elim
def wpLc_1400 (K : Int32 → DS → MS → SS → (Nat → Int64) → Prop) (L : Nat) (xs : Nat → Int32) (i : Int32) (d : DS) (mo : MS) (x : SS) (w : Nat → Int64) : Prop := wpX2_weakest (fun r1401 => wpX3_weakest (fun r1405 mo1405 => (r1401 = r1405 → K (i + 8) d mo1405 x w) ∧ (¬ r1401 = r1405 → False)) mo) d
set_option maxHeartbeats 4000000 in
set_option maxRecDepth 100000 in
theorem lc_1400 {p : Program} {l : Launch} {e : Env} {s : State} {m : MethodId} {below : List Frame} {meth : Method} {c : Code} {b L : Nat} {xs : Nat → Int32} {D : va_G} {cI cB cJ : ClassId} {dA bA aA tA mA oA : Nat → Nat} {Q : State → Prop} {cells slots : Nat} {K : Int32 → DS → MS → SS → (Nat → Int64) → Prop} (hfl : l.stackTraces = false) (hs0 : zS s) (C : zC D (zty cI cB cJ) p s m #[Value.ref b] meth c cL_law RL ret 9) (hA : ∀ q : Nat, s.heap.size ≤ q → (fun q : Nat => s.heap.size ≤ q) q) (hG : zG s (fun q : Nat => s.heap.size ≤ q) s s.heap) (hX : va_X b L xs s s.heap) (hbl : b < s.heap.size) (hcs : cells + 210 ≤ 635979 ∧ slots + 6594 ≤ 7188166)
    (hk : ∀ (i : Int32) (d : DS) (mo : MS) (x : SS) (w : Nat → Int64) (H : Heap) (locs : List Loc), va_P D vwCl (wD cI dA bA aA tA d ++ wM cI mA mo ++ wS cB (fun _ : Nat => mA 10) x ++ [((oA 0), .inl (cJ, 1, .inr (.inl w)))]) H → va_D (fun q : Nat => s.heap.size ≤ q) (wD cI dA bA aA tA d ++ wM cI mA mo ++ wS cB (fun _ : Nat => mA 10) x ++ [((oA 0), .inl (cJ, 1, .inr (.inl w)))]) → va_S (fun q : Nat => s.heap.size ≤ q) s.heap H locs → ∀ ls : Array Slot, lv_has ls 9 [(0, .ref b), (1, .ref (dA 0)), (2, .ref (mA 0)), (3, .ref (oA 0)), (4, .int i)] → K i d mo x w → W p l e room_1 s m #[Value.ref b] below meth c H locs (cells + 210) (slots + 6594) Q (F0 m 23 ls []))
    (i : Int32) (d : DS) (mo : MS) (x : SS) (w : Nat → Int64) (H : Heap) (locs : List Loc) (hP : va_P D vwCl (wD cI dA bA aA tA d ++ wM cI mA mo ++ wS cB (fun _ : Nat => mA 10) x ++ [((oA 0), .inl (cJ, 1, .inr (.inl w)))]) H) (hD : va_D (fun q : Nat => s.heap.size ≤ q) (wD cI dA bA aA tA d ++ wM cI mA mo ++ wS cB (fun _ : Nat => mA 10) x ++ [((oA 0), .inl (cJ, 1, .inr (.inl w)))])) (hS : va_S (fun q : Nat => s.heap.size ≤ q) s.heap H locs) (ls : Array Slot) (hl : lv_has ls 9 [(0, .ref b), (1, .ref (dA 0)), (2, .ref (mA 0)), (3, .ref (oA 0)), (4, .int i)]) (h : wpLc_1400 K L xs i d mo x w) : W p l e room_1 s m #[Value.ref b] below meth c H locs cells slots Q (F0 m 1400 ls []) := by
  have hx := C.1
  have hb := C.2.1
  have hts := C.2.2.1
  have hown := C.2.2.2.1
  have hml := C.2.2.2.2.2.1
  have hK := C.2.2.2.2.2.2.2
  have hbA : ¬ (fun q : Nat => s.heap.size ≤ q) b := Nat.not_le.mpr hbl
  unfold wpLc_1400 at h
  refine lv_aload_n hx hb dL_law_1400 rfl (lv_at hl 1 rfl) ?_
  refine z_RV (As := []) (rest := []) [0, 1, 2, 3, 4, 5, 6, 7, 8, 9, 10, 11, 12, 13, 14, 15, 16, 17, 18, 19, 20, 21] C (hG.kept hS.1 hS.2.1).none hP (c_X2_weakest hfl hs0 D cI cB cJ dA bA aA tA d h) q767 v_X2_weakest rfl rfl rfl rfl ⟨(by first | (dsimp only [room_1]; omega) | omega | exact Nat.le_of_ble_eq_true rfl), (by first | (dsimp only [room_1]; omega) | omega | exact Nat.le_of_ble_eq_true rfl)⟩ ⟨(by first | (dsimp only [room_1]; omega) | omega | exact Nat.le_of_ble_eq_true rfl), (by first | (dsimp only [room_1]; omega) | omega | exact Nat.le_of_ble_eq_true rfl)⟩ hl.1 rfl (lv_room (by first | (dsimp only [room_1]; omega) | omega | exact Nat.le_of_ble_eq_true rfl)) dL_law_1401 (fun r1401 h => ?_)
  refine lv_aload_n hx hb dL_law_1404 rfl (lv_at hl 2 rfl) ?_
  refine z_WV (As := []) (rest := [.int r1401]) (wr := (wD cI dA bA aA tA d ++ wS cB (fun _ : Nat => mA 10) x ++ [((oA 0), .inl (cJ, 1, .inr (.inl w)))] : va_W)) (wN := (fun u : Int32 × MS => wD cI dA bA aA tA d ++ wM cI mA u.2 ++ wS cB (fun _ : Nat => mA 10) x ++ [((oA 0), .inl (cJ, 1, .inr (.inl w)))])) [22, 23, 24, 25, 26, 27, 28, 29, 30, 31] [0, 1, 2, 3, 4, 5, 6, 7, 8, 9, 10, 11, 12, 13, 14, 15, 16, 17, 18, 19, 20, 21, 32, 33, 34] [0, 1, 2, 3, 4, 5, 6, 7, 8, 9, 10, 11, 12, 13, 14, 15, 16, 17, 18, 19, 20, 21, 25, 26, 27, 28, 29, 30, 31, 32, 33, 34, 22, 23, 24] C hG hA hP hD hS (c_X3_weakest hfl hs0 D cI cB cJ mA mo h) q768 v_X3_weakest rfl rfl ⟨by decide, by decide, by decide⟩ (by decide) (fun _ => rfl) rfl rfl rfl ⟨(by first | (dsimp only [room_1]; omega) | omega | exact Nat.le_of_ble_eq_true rfl), (by first | (dsimp only [room_1]; omega) | omega | exact Nat.le_of_ble_eq_true rfl)⟩ ⟨(by first | (dsimp only [room_1]; omega) | omega | exact Nat.le_of_ble_eq_true rfl), (by first | (dsimp only [room_1]; omega) | omega | exact Nat.le_of_ble_eq_true rfl)⟩ hl.1 rfl (lv_room (by first | (dsimp only [room_1]; omega) | omega | exact Nat.le_of_ble_eq_true rfl)) dL_law_1405 (fun u H locs h hP hD hS => ?_)
  obtain ⟨r1405, mo1405⟩ := u
  have hP : va_P D vwCl (wD cI dA bA aA tA d ++ wM cI mA mo1405 ++ wS cB (fun _ : Nat => mA 10) x ++ [((oA 0), .inl (cJ, 1, .inr (.inl w)))]) H := hP
  have hD : va_D (fun q : Nat => s.heap.size ≤ q) (wD cI dA bA aA tA d ++ wM cI mA mo1405 ++ wS cB (fun _ : Nat => mA 10) x ++ [((oA 0), .inl (cJ, 1, .inr (.inl w)))]) := hD
  refine lv_icmp_eq (tgt := 1648) hx hb dL_law_1408 (by decide) (fun c1408 => ?_) (fun c1408 => ?_)
  · have h := h.1 c1408
    refine lv_iinc (v := (i + 8)) (lv' := [(4, .int (i + 8)), (0, .ref b), (1, .ref (dA 0)), (2, .ref (mA 0)), (3, .ref (oA 0))]) hx hb dL_law_1648 hl (k := 4) rfl (by first | rfl | decide) (by decide) rfl (fun ls hl => ?_)
    refine lv_goto (tgt := 23) hx hb dL_law_1651 (by decide) ?_
    refine W.widen (k := cells + 210) (n := slots + 6594) (by first | (dsimp only [room_1]; omega) | omega | exact Nat.le_of_ble_eq_true rfl) (by first | (dsimp only [room_1]; omega) | omega | exact Nat.le_of_ble_eq_true rfl) ?_
    exact hk _ _ _ _ _ _ _ hP hD hS _ (lv_sub hl [1, 2, 3, 4, 0] rfl) h
  · have h := h.2 c1408
    refine lv_iconst (v := 0) hx hb dL_law_1411 (by decide) ?_
    exact (show False from h).elim
def wpLc_1413 (K : Int32 → DS → MS → SS → (Nat → Int64) → Prop) (L : Nat) (xs : Nat → Int32) (i : Int32) (d : DS) (mo : MS) (x : SS) (w : Nat → Int64) : Prop := vp_in (i + 1) L ∧ (wpL_daysUntilFailed (fun r1421 d1421 w1421 => vp_in (i + 1) L ∧ (wpX3_daysUntilFailed (fun r1433 mo1433 => wpX3_thrown (fun r1439 => (r1439 = r1421 → (r1421 = 0 → ((lg_cmp (w1421 (0 : Int32).toNatClampNeg) r1433.toInt64) = 0 → K (i + 8) d1421 mo1433 x w1421) ∧ (¬ (lg_cmp (w1421 (0 : Int32).toNatClampNeg) r1433.toInt64) = 0 → False)) ∧ (¬ r1421 = 0 → K (i + 8) d1421 mo1433 x w1421)) ∧ (¬ r1439 = r1421 → False)) mo1433) mo (xs (i + 1).toNatClampNeg))) d w (xs (i + 1).toNatClampNeg))
set_option maxHeartbeats 4000000 in
set_option maxRecDepth 100000 in
theorem lc_1413 {p : Program} {l : Launch} {e : Env} {s : State} {m : MethodId} {below : List Frame} {meth : Method} {c : Code} {b L : Nat} {xs : Nat → Int32} {D : va_G} {cI cB cJ : ClassId} {dA bA aA tA mA oA : Nat → Nat} {Q : State → Prop} {cells slots : Nat} {K : Int32 → DS → MS → SS → (Nat → Int64) → Prop} (hfl : l.stackTraces = false) (hs0 : zS s) (C : zC D (zty cI cB cJ) p s m #[Value.ref b] meth c cL_law RL ret 9) (hA : ∀ q : Nat, s.heap.size ≤ q → (fun q : Nat => s.heap.size ≤ q) q) (hG : zG s (fun q : Nat => s.heap.size ≤ q) s s.heap) (hX : va_X b L xs s s.heap) (hbl : b < s.heap.size) (hcs : cells + 210 ≤ 635979 ∧ slots + 6594 ≤ 7188166)
    (hk : ∀ (i : Int32) (d : DS) (mo : MS) (x : SS) (w : Nat → Int64) (H : Heap) (locs : List Loc), va_P D vwCl (wD cI dA bA aA tA d ++ wM cI mA mo ++ wS cB (fun _ : Nat => mA 10) x ++ [((oA 0), .inl (cJ, 1, .inr (.inl w)))]) H → va_D (fun q : Nat => s.heap.size ≤ q) (wD cI dA bA aA tA d ++ wM cI mA mo ++ wS cB (fun _ : Nat => mA 10) x ++ [((oA 0), .inl (cJ, 1, .inr (.inl w)))]) → va_S (fun q : Nat => s.heap.size ≤ q) s.heap H locs → ∀ ls : Array Slot, lv_has ls 9 [(0, .ref b), (1, .ref (dA 0)), (2, .ref (mA 0)), (3, .ref (oA 0)), (4, .int i)] → K i d mo x w → W p l e room_1 s m #[Value.ref b] below meth c H locs (cells + 210) (slots + 6594) Q (F0 m 23 ls []))
    (i : Int32) (d : DS) (mo : MS) (x : SS) (w : Nat → Int64) (H : Heap) (locs : List Loc) (hP : va_P D vwCl (wD cI dA bA aA tA d ++ wM cI mA mo ++ wS cB (fun _ : Nat => mA 10) x ++ [((oA 0), .inl (cJ, 1, .inr (.inl w)))]) H) (hD : va_D (fun q : Nat => s.heap.size ≤ q) (wD cI dA bA aA tA d ++ wM cI mA mo ++ wS cB (fun _ : Nat => mA 10) x ++ [((oA 0), .inl (cJ, 1, .inr (.inl w)))])) (hS : va_S (fun q : Nat => s.heap.size ≤ q) s.heap H locs) (ls : Array Slot) (hl : lv_has ls 9 [(0, .ref b), (1, .ref (dA 0)), (2, .ref (mA 0)), (3, .ref (oA 0)), (4, .int i)]) (h : wpLc_1413 K L xs i d mo x w) : W p l e room_1 s m #[Value.ref b] below meth c H locs cells slots Q (F0 m 1413 ls []) := by
  have hx := C.1
  have hb := C.2.1
  have hts := C.2.2.1
  have hown := C.2.2.2.1
  have hml := C.2.2.2.2.2.1
  have hK := C.2.2.2.2.2.2.2
  have hbA : ¬ (fun q : Nat => s.heap.size ≤ q) b := Nat.not_le.mpr hbl
  unfold wpLc_1413 at h
  refine lv_aload_n hx hb dL_law_1413 rfl (lv_at hl 1 rfl) ?_
  refine lv_aload_n hx hb dL_law_1414 rfl (lv_at hl 0 rfl) ?_
  refine lv_iload hx hb dL_law_1415 (lv_at hl 4 rfl) ?_
  refine lv_iconst (v := 1) hx hb dL_law_1417 (by decide) ?_
  refine lv_iadd hx hb dL_law_1418 ?_
  obtain ⟨g9, h⟩ := h
  refine va_sld hx hb hX hbl hbA hS g9 dL_law_1419 ?_
  refine lv_aload_n hx hb dL_law_1420 rfl (lv_at hl 3 rfl) ?_
  refine z_WH (As := [.ref (dA 0), .int (xs (i + 1).toNatClampNeg), .ref (oA 0)]) (rest := []) (wr := (wM cI mA mo ++ wS cB (fun _ : Nat => mA 10) x : va_W)) (wN := (fun u : Int32 × DS × (Nat → Int64) => wD cI dA bA aA tA u.2.1 ++ wM cI mA mo ++ wS cB (fun _ : Nat => mA 10) x ++ [((oA 0), .inl (cJ, 1, .inr (.inl u.2.2)))])) [0, 1, 2, 3, 4, 5, 6, 7, 8, 9, 10, 11, 12, 13, 14, 15, 16, 17, 18, 19, 20, 21, 34] [22, 23, 24, 25, 26, 27, 28, 29, 30, 31, 32, 33] [12, 13, 14, 15, 16, 17, 18, 19, 20, 21, 22, 23, 24, 25, 26, 27, 28, 29, 30, 31, 32, 33, 0, 1, 2, 3, 4, 5, 6, 7, 8, 9, 10, 11, 34] C hG hA hP hD hS (c_L_daysUntilFailed hfl hs0 D cI cB cJ dA bA aA tA oA d w (xs (i + 1).toNatClampNeg) h) q772 v_L_daysUntilFailed rfl rfl ⟨by decide, by decide, by decide⟩ (by decide) (fun _ => rfl) rfl ⟨(by first | (dsimp only [room_1]; omega) | omega | exact Nat.le_of_ble_eq_true rfl), (by first | (dsimp only [room_1]; omega) | omega | exact Nat.le_of_ble_eq_true rfl)⟩ ⟨(by first | (dsimp only [room_1]; omega) | omega | exact Nat.le_of_ble_eq_true rfl), (by first | (dsimp only [room_1]; omega) | omega | exact Nat.le_of_ble_eq_true rfl)⟩ hl.1 rfl (lv_room (by first | (dsimp only [room_1]; omega) | omega | exact Nat.le_of_ble_eq_true rfl)) dL_law_1421 (fun u H locs h hP hD hS => ?_)
  obtain ⟨r1421, d1421, w1421⟩ := u
  have hP : va_P D vwCl (wD cI dA bA aA tA d1421 ++ wM cI mA mo ++ wS cB (fun _ : Nat => mA 10) x ++ [((oA 0), .inl (cJ, 1, .inr (.inl w1421)))]) H := hP
  have hD : va_D (fun q : Nat => s.heap.size ≤ q) (wD cI dA bA aA tA d1421 ++ wM cI mA mo ++ wS cB (fun _ : Nat => mA 10) x ++ [((oA 0), .inl (cJ, 1, .inr (.inl w1421)))]) := hD
  refine lv_istore (lv' := [(5, .int r1421), (0, .ref b), (1, .ref (dA 0)), (2, .ref (mA 0)), (3, .ref (oA 0)), (4, .int i)]) hx hb dL_law_1424 hl (by decide) rfl (fun ls hl => ?_)
  refine lv_aload_n hx hb dL_law_1426 rfl (lv_at hl 3 rfl) ?_
  refine lv_aload_n hx hb dL_law_1427 rfl (lv_at hl 1 rfl) ?_
  refine lv_iload hx hb dL_law_1428 (lv_at hl 5 rfl) ?_
  refine lv_iconst (v := 1) hx hb dL_law_1430 (by decide) ?_
  refine lv_iadd hx hb dL_law_1431 ?_
  obtain ⟨g9, h⟩ := h
  refine va_sld hx hb hX hbl hbA hS g9 dL_law_1432 ?_
  refine z_WV (As := [.int (xs (i + 1).toNatClampNeg)]) (rest := []) (wr := (wD cI dA bA aA tA d1421 ++ wS cB (fun _ : Nat => mA 10) x ++ [((oA 0), .inl (cJ, 1, .inr (.inl w1421)))] : va_W)) (wN := (fun u : Int32 × MS => wD cI dA bA aA tA d1421 ++ wM cI mA u.2 ++ wS cB (fun _ : Nat => mA 10) x ++ [((oA 0), .inl (cJ, 1, .inr (.inl w1421)))])) [22, 23, 24, 25, 26, 27, 28, 29, 30, 31] [0, 1, 2, 3, 4, 5, 6, 7, 8, 9, 10, 11, 12, 13, 14, 15, 16, 17, 18, 19, 20, 21, 32, 33, 34] [0, 1, 2, 3, 4, 5, 6, 7, 8, 9, 10, 11, 12, 13, 14, 15, 16, 17, 18, 19, 20, 21, 25, 26, 27, 28, 29, 30, 31, 32, 33, 34, 22, 23, 24] C hG hA hP hD hS (c_X3_daysUntilFailed hfl hs0 D cI cB cJ mA mo (xs (i + 1).toNatClampNeg) h) q773 v_X3_daysUntilFailed rfl rfl ⟨by decide, by decide, by decide⟩ (by decide) (fun _ => rfl) rfl rfl rfl ⟨(by first | (dsimp only [room_1]; omega) | omega | exact Nat.le_of_ble_eq_true rfl), (by first | (dsimp only [room_1]; omega) | omega | exact Nat.le_of_ble_eq_true rfl)⟩ ⟨(by first | (dsimp only [room_1]; omega) | omega | exact Nat.le_of_ble_eq_true rfl), (by first | (dsimp only [room_1]; omega) | omega | exact Nat.le_of_ble_eq_true rfl)⟩ hl.1 rfl (lv_room (by first | (dsimp only [room_1]; omega) | omega | exact Nat.le_of_ble_eq_true rfl)) dL_law_1433 (fun u H locs h hP hD hS => ?_)
  obtain ⟨r1433, mo1433⟩ := u
  have hP : va_P D vwCl (wD cI dA bA aA tA d1421 ++ wM cI mA mo1433 ++ wS cB (fun _ : Nat => mA 10) x ++ [((oA 0), .inl (cJ, 1, .inr (.inl w1421)))]) H := hP
  have hD : va_D (fun q : Nat => s.heap.size ≤ q) (wD cI dA bA aA tA d1421 ++ wM cI mA mo1433 ++ wS cB (fun _ : Nat => mA 10) x ++ [((oA 0), .inl (cJ, 1, .inr (.inl w1421)))]) := hD
  refine lv_istore (lv' := [(6, .int r1433), (5, .int r1421), (0, .ref b), (1, .ref (dA 0)), (2, .ref (mA 0)), (3, .ref (oA 0)), (4, .int i)]) hx hb dL_law_1436 hl (by decide) rfl (fun ls hl => ?_)
  refine lv_aload_n hx hb dL_law_1438 rfl (lv_at hl 4 rfl) ?_
  refine z_RV (As := []) (rest := []) [22, 23, 24, 25, 26, 27, 28, 29, 30, 31] C (hG.kept hS.1 hS.2.1).none hP (c_X3_thrown hfl hs0 D cI cB cJ mA mo1433 h) q650 v_X3_thrown rfl rfl rfl rfl ⟨(by first | (dsimp only [room_1]; omega) | omega | exact Nat.le_of_ble_eq_true rfl), (by first | (dsimp only [room_1]; omega) | omega | exact Nat.le_of_ble_eq_true rfl)⟩ ⟨(by first | (dsimp only [room_1]; omega) | omega | exact Nat.le_of_ble_eq_true rfl), (by first | (dsimp only [room_1]; omega) | omega | exact Nat.le_of_ble_eq_true rfl)⟩ hl.1 rfl (lv_room (by first | (dsimp only [room_1]; omega) | omega | exact Nat.le_of_ble_eq_true rfl)) dL_law_1439 (fun r1439 h => ?_)
  refine lv_iload hx hb dL_law_1442 (lv_at hl 1 rfl) ?_
  refine lv_icmp_eq (tgt := 1449) hx hb dL_law_1444 (by decide) (fun c1444 => ?_) (fun c1444 => ?_)
  · have h := h.1 c1444
    refine lv_iload hx hb dL_law_1449 (lv_at hl 1 rfl) ?_
    refine lv_if_ne (tgt := 1466) hx hb dL_law_1451 (by decide) (fun c1451 => ?_) (fun c1451 => ?_)
    · have h := h.2 c1451
      refine lv_goto (tgt := 1648) hx hb dL_law_1466 (by decide) ?_
      refine lv_iinc (v := (i + 8)) (lv' := [(4, .int (i + 8)), (6, .int r1433), (5, .int r1421), (0, .ref b), (1, .ref (dA 0)), (2, .ref (mA 0)), (3, .ref (oA 0))]) hx hb dL_law_1648 hl (k := 6) rfl (by first | rfl | decide) (by decide) rfl (fun ls hl => ?_)
      refine lv_goto (tgt := 23) hx hb dL_law_1651 (by decide) ?_
      refine W.widen (k := cells + 210) (n := slots + 6594) (by first | (dsimp only [room_1]; omega) | omega | exact Nat.le_of_ble_eq_true rfl) (by first | (dsimp only [room_1]; omega) | omega | exact Nat.le_of_ble_eq_true rfl) ?_
      exact hk _ _ _ _ _ _ _ hP hD hS _ (lv_sub hl [3, 4, 5, 6, 0] rfl) h
    · have h := h.1 c1451
      refine lv_aload_n hx hb dL_law_1454 rfl (lv_at hl 5 rfl) ?_
      refine lv_iconst (v := 0) hx hb dL_law_1455 (by decide) ?_
      refine va_lald hx hb hK hP 34 2 rfl rfl (show ¬ ((0 : Int32) < 0 ∨ 1 ≤ (0 : Int32).toNatClampNeg) from by decide) dL_law_1456 ?_
      refine lv_iload hx hb dL_law_1457 (lv_at hl 0 rfl) ?_
      refine lv_i2l hx hb dL_law_1459 rfl ?_
      refine W.lcmp hx hb dL_law_1460 ?_
      refine lv_if_eq (tgt := 1466) hx hb dL_law_1461 (by decide) (fun c1461 => ?_) (fun c1461 => ?_)
      · have h := h.1 c1461
        refine lv_goto (tgt := 1648) hx hb dL_law_1466 (by decide) ?_
        refine lv_iinc (v := (i + 8)) (lv' := [(4, .int (i + 8)), (6, .int r1433), (5, .int r1421), (0, .ref b), (1, .ref (dA 0)), (2, .ref (mA 0)), (3, .ref (oA 0))]) hx hb dL_law_1648 hl (k := 6) rfl (by first | rfl | decide) (by decide) rfl (fun ls hl => ?_)
        refine lv_goto (tgt := 23) hx hb dL_law_1651 (by decide) ?_
        refine W.widen (k := cells + 210) (n := slots + 6594) (by first | (dsimp only [room_1]; omega) | omega | exact Nat.le_of_ble_eq_true rfl) (by first | (dsimp only [room_1]; omega) | omega | exact Nat.le_of_ble_eq_true rfl) ?_
        exact hk _ _ _ _ _ _ _ hP hD hS _ (lv_sub hl [3, 4, 5, 6, 0] rfl) h
      · have h := h.2 c1461
        refine lv_iconst (v := 0) hx hb dL_law_1464 (by decide) ?_
        exact (show False from h).elim
  · have h := h.2 c1444
    refine lv_iconst (v := 0) hx hb dL_law_1447 (by decide) ?_
    exact (show False from h).elim
def wpLc_1469 (K : Int32 → DS → MS → SS → (Nat → Int64) → Prop) (L : Nat) (xs : Nat → Int32) (i : Int32) (d : DS) (mo : MS) (x : SS) (w : Nat → Int64) : Prop := vp_in (i + 1) L ∧ (vp_in (i + 2) L ∧ (wpL_purseIn (fun r1483 d1483 w1483 => vp_in (i + 1) L ∧ (vp_in (i + 2) L ∧ (wpX3_purseIn (fun r1501 mo1501 => wpX3_thrown (fun r1507 => (r1507 = r1483 → (r1483 = 0 → ((lg_cmp (w1483 (0 : Int32).toNatClampNeg) r1501.toInt64) = 0 → K (i + 8) d1483 mo1501 x w1483) ∧ (¬ (lg_cmp (w1483 (0 : Int32).toNatClampNeg) r1501.toInt64) = 0 → False)) ∧ (¬ r1483 = 0 → K (i + 8) d1483 mo1501 x w1483)) ∧ (¬ r1507 = r1483 → False)) mo1501) mo (xs (i + 1).toNatClampNeg) (xs (i + 2).toNatClampNeg)))) d w (xs (i + 1).toNatClampNeg) (xs (i + 2).toNatClampNeg)))
set_option maxHeartbeats 4000000 in
set_option maxRecDepth 100000 in
theorem lc_1469 {p : Program} {l : Launch} {e : Env} {s : State} {m : MethodId} {below : List Frame} {meth : Method} {c : Code} {b L : Nat} {xs : Nat → Int32} {D : va_G} {cI cB cJ : ClassId} {dA bA aA tA mA oA : Nat → Nat} {Q : State → Prop} {cells slots : Nat} {K : Int32 → DS → MS → SS → (Nat → Int64) → Prop} (hfl : l.stackTraces = false) (hs0 : zS s) (C : zC D (zty cI cB cJ) p s m #[Value.ref b] meth c cL_law RL ret 9) (hA : ∀ q : Nat, s.heap.size ≤ q → (fun q : Nat => s.heap.size ≤ q) q) (hG : zG s (fun q : Nat => s.heap.size ≤ q) s s.heap) (hX : va_X b L xs s s.heap) (hbl : b < s.heap.size) (hcs : cells + 210 ≤ 635979 ∧ slots + 6594 ≤ 7188166)
    (hk : ∀ (i : Int32) (d : DS) (mo : MS) (x : SS) (w : Nat → Int64) (H : Heap) (locs : List Loc), va_P D vwCl (wD cI dA bA aA tA d ++ wM cI mA mo ++ wS cB (fun _ : Nat => mA 10) x ++ [((oA 0), .inl (cJ, 1, .inr (.inl w)))]) H → va_D (fun q : Nat => s.heap.size ≤ q) (wD cI dA bA aA tA d ++ wM cI mA mo ++ wS cB (fun _ : Nat => mA 10) x ++ [((oA 0), .inl (cJ, 1, .inr (.inl w)))]) → va_S (fun q : Nat => s.heap.size ≤ q) s.heap H locs → ∀ ls : Array Slot, lv_has ls 9 [(0, .ref b), (1, .ref (dA 0)), (2, .ref (mA 0)), (3, .ref (oA 0)), (4, .int i)] → K i d mo x w → W p l e room_1 s m #[Value.ref b] below meth c H locs (cells + 210) (slots + 6594) Q (F0 m 23 ls []))
    (i : Int32) (d : DS) (mo : MS) (x : SS) (w : Nat → Int64) (H : Heap) (locs : List Loc) (hP : va_P D vwCl (wD cI dA bA aA tA d ++ wM cI mA mo ++ wS cB (fun _ : Nat => mA 10) x ++ [((oA 0), .inl (cJ, 1, .inr (.inl w)))]) H) (hD : va_D (fun q : Nat => s.heap.size ≤ q) (wD cI dA bA aA tA d ++ wM cI mA mo ++ wS cB (fun _ : Nat => mA 10) x ++ [((oA 0), .inl (cJ, 1, .inr (.inl w)))])) (hS : va_S (fun q : Nat => s.heap.size ≤ q) s.heap H locs) (ls : Array Slot) (hl : lv_has ls 9 [(0, .ref b), (1, .ref (dA 0)), (2, .ref (mA 0)), (3, .ref (oA 0)), (4, .int i)]) (h : wpLc_1469 K L xs i d mo x w) : W p l e room_1 s m #[Value.ref b] below meth c H locs cells slots Q (F0 m 1469 ls []) := by
  have hx := C.1
  have hb := C.2.1
  have hts := C.2.2.1
  have hown := C.2.2.2.1
  have hml := C.2.2.2.2.2.1
  have hK := C.2.2.2.2.2.2.2
  have hbA : ¬ (fun q : Nat => s.heap.size ≤ q) b := Nat.not_le.mpr hbl
  unfold wpLc_1469 at h
  refine lv_aload_n hx hb dL_law_1469 rfl (lv_at hl 1 rfl) ?_
  refine lv_aload_n hx hb dL_law_1470 rfl (lv_at hl 0 rfl) ?_
  refine lv_iload hx hb dL_law_1471 (lv_at hl 4 rfl) ?_
  refine lv_iconst (v := 1) hx hb dL_law_1473 (by decide) ?_
  refine lv_iadd hx hb dL_law_1474 ?_
  obtain ⟨g9, h⟩ := h
  refine va_sld hx hb hX hbl hbA hS g9 dL_law_1475 ?_
  refine lv_aload_n hx hb dL_law_1476 rfl (lv_at hl 0 rfl) ?_
  refine lv_iload hx hb dL_law_1477 (lv_at hl 4 rfl) ?_
  refine lv_iconst (v := 2) hx hb dL_law_1479 (by decide) ?_
  refine lv_iadd hx hb dL_law_1480 ?_
  obtain ⟨g9, h⟩ := h
  refine va_sld hx hb hX hbl hbA hS g9 dL_law_1481 ?_
  refine lv_aload_n hx hb dL_law_1482 rfl (lv_at hl 3 rfl) ?_
  refine z_WH (As := [.ref (dA 0), .int (xs (i + 1).toNatClampNeg), .int (xs (i + 2).toNatClampNeg), .ref (oA 0)]) (rest := []) (wr := (wM cI mA mo ++ wS cB (fun _ : Nat => mA 10) x : va_W)) (wN := (fun u : Int32 × DS × (Nat → Int64) => wD cI dA bA aA tA u.2.1 ++ wM cI mA mo ++ wS cB (fun _ : Nat => mA 10) x ++ [((oA 0), .inl (cJ, 1, .inr (.inl u.2.2)))])) [0, 1, 2, 3, 4, 5, 6, 7, 8, 9, 10, 11, 12, 13, 14, 15, 16, 17, 18, 19, 20, 21, 34] [22, 23, 24, 25, 26, 27, 28, 29, 30, 31, 32, 33] [12, 13, 14, 15, 16, 17, 18, 19, 20, 21, 22, 23, 24, 25, 26, 27, 28, 29, 30, 31, 32, 33, 0, 1, 2, 3, 4, 5, 6, 7, 8, 9, 10, 11, 34] C hG hA hP hD hS (c_L_purseIn hfl hs0 D cI cB cJ dA bA aA tA oA d w (xs (i + 1).toNatClampNeg) (xs (i + 2).toNatClampNeg) h) q777 v_L_purseIn rfl rfl ⟨by decide, by decide, by decide⟩ (by decide) (fun _ => rfl) rfl ⟨(by first | (dsimp only [room_1]; omega) | omega | exact Nat.le_of_ble_eq_true rfl), (by first | (dsimp only [room_1]; omega) | omega | exact Nat.le_of_ble_eq_true rfl)⟩ ⟨(by first | (dsimp only [room_1]; omega) | omega | exact Nat.le_of_ble_eq_true rfl), (by first | (dsimp only [room_1]; omega) | omega | exact Nat.le_of_ble_eq_true rfl)⟩ hl.1 rfl (lv_room (by first | (dsimp only [room_1]; omega) | omega | exact Nat.le_of_ble_eq_true rfl)) dL_law_1483 (fun u H locs h hP hD hS => ?_)
  obtain ⟨r1483, d1483, w1483⟩ := u
  have hP : va_P D vwCl (wD cI dA bA aA tA d1483 ++ wM cI mA mo ++ wS cB (fun _ : Nat => mA 10) x ++ [((oA 0), .inl (cJ, 1, .inr (.inl w1483)))]) H := hP
  have hD : va_D (fun q : Nat => s.heap.size ≤ q) (wD cI dA bA aA tA d1483 ++ wM cI mA mo ++ wS cB (fun _ : Nat => mA 10) x ++ [((oA 0), .inl (cJ, 1, .inr (.inl w1483)))]) := hD
  refine lv_istore (lv' := [(5, .int r1483), (0, .ref b), (1, .ref (dA 0)), (2, .ref (mA 0)), (3, .ref (oA 0)), (4, .int i)]) hx hb dL_law_1486 hl (by decide) rfl (fun ls hl => ?_)
  refine lv_aload_n hx hb dL_law_1488 rfl (lv_at hl 3 rfl) ?_
  refine lv_aload_n hx hb dL_law_1489 rfl (lv_at hl 1 rfl) ?_
  refine lv_iload hx hb dL_law_1490 (lv_at hl 5 rfl) ?_
  refine lv_iconst (v := 1) hx hb dL_law_1492 (by decide) ?_
  refine lv_iadd hx hb dL_law_1493 ?_
  obtain ⟨g9, h⟩ := h
  refine va_sld hx hb hX hbl hbA hS g9 dL_law_1494 ?_
  refine lv_aload_n hx hb dL_law_1495 rfl (lv_at hl 1 rfl) ?_
  refine lv_iload hx hb dL_law_1496 (lv_at hl 5 rfl) ?_
  refine lv_iconst (v := 2) hx hb dL_law_1498 (by decide) ?_
  refine lv_iadd hx hb dL_law_1499 ?_
  obtain ⟨g9, h⟩ := h
  refine va_sld hx hb hX hbl hbA hS g9 dL_law_1500 ?_
  refine z_WV (As := [.int (xs (i + 1).toNatClampNeg), .int (xs (i + 2).toNatClampNeg)]) (rest := []) (wr := (wD cI dA bA aA tA d1483 ++ wS cB (fun _ : Nat => mA 10) x ++ [((oA 0), .inl (cJ, 1, .inr (.inl w1483)))] : va_W)) (wN := (fun u : Int32 × MS => wD cI dA bA aA tA d1483 ++ wM cI mA u.2 ++ wS cB (fun _ : Nat => mA 10) x ++ [((oA 0), .inl (cJ, 1, .inr (.inl w1483)))])) [22, 23, 24, 25, 26, 27, 28, 29, 30, 31] [0, 1, 2, 3, 4, 5, 6, 7, 8, 9, 10, 11, 12, 13, 14, 15, 16, 17, 18, 19, 20, 21, 32, 33, 34] [0, 1, 2, 3, 4, 5, 6, 7, 8, 9, 10, 11, 12, 13, 14, 15, 16, 17, 18, 19, 20, 21, 25, 26, 27, 28, 29, 30, 31, 32, 33, 34, 22, 23, 24] C hG hA hP hD hS (c_X3_purseIn hfl hs0 D cI cB cJ mA mo (xs (i + 1).toNatClampNeg) (xs (i + 2).toNatClampNeg) h) q778 v_X3_purseIn rfl rfl ⟨by decide, by decide, by decide⟩ (by decide) (fun _ => rfl) rfl rfl rfl ⟨(by first | (dsimp only [room_1]; omega) | omega | exact Nat.le_of_ble_eq_true rfl), (by first | (dsimp only [room_1]; omega) | omega | exact Nat.le_of_ble_eq_true rfl)⟩ ⟨(by first | (dsimp only [room_1]; omega) | omega | exact Nat.le_of_ble_eq_true rfl), (by first | (dsimp only [room_1]; omega) | omega | exact Nat.le_of_ble_eq_true rfl)⟩ hl.1 rfl (lv_room (by first | (dsimp only [room_1]; omega) | omega | exact Nat.le_of_ble_eq_true rfl)) dL_law_1501 (fun u H locs h hP hD hS => ?_)
  obtain ⟨r1501, mo1501⟩ := u
  have hP : va_P D vwCl (wD cI dA bA aA tA d1483 ++ wM cI mA mo1501 ++ wS cB (fun _ : Nat => mA 10) x ++ [((oA 0), .inl (cJ, 1, .inr (.inl w1483)))]) H := hP
  have hD : va_D (fun q : Nat => s.heap.size ≤ q) (wD cI dA bA aA tA d1483 ++ wM cI mA mo1501 ++ wS cB (fun _ : Nat => mA 10) x ++ [((oA 0), .inl (cJ, 1, .inr (.inl w1483)))]) := hD
  refine lv_istore (lv' := [(6, .int r1501), (5, .int r1483), (0, .ref b), (1, .ref (dA 0)), (2, .ref (mA 0)), (3, .ref (oA 0)), (4, .int i)]) hx hb dL_law_1504 hl (by decide) rfl (fun ls hl => ?_)
  refine lv_aload_n hx hb dL_law_1506 rfl (lv_at hl 4 rfl) ?_
  refine z_RV (As := []) (rest := []) [22, 23, 24, 25, 26, 27, 28, 29, 30, 31] C (hG.kept hS.1 hS.2.1).none hP (c_X3_thrown hfl hs0 D cI cB cJ mA mo1501 h) q650 v_X3_thrown rfl rfl rfl rfl ⟨(by first | (dsimp only [room_1]; omega) | omega | exact Nat.le_of_ble_eq_true rfl), (by first | (dsimp only [room_1]; omega) | omega | exact Nat.le_of_ble_eq_true rfl)⟩ ⟨(by first | (dsimp only [room_1]; omega) | omega | exact Nat.le_of_ble_eq_true rfl), (by first | (dsimp only [room_1]; omega) | omega | exact Nat.le_of_ble_eq_true rfl)⟩ hl.1 rfl (lv_room (by first | (dsimp only [room_1]; omega) | omega | exact Nat.le_of_ble_eq_true rfl)) dL_law_1507 (fun r1507 h => ?_)
  refine lv_iload hx hb dL_law_1510 (lv_at hl 1 rfl) ?_
  refine lv_icmp_eq (tgt := 1517) hx hb dL_law_1512 (by decide) (fun c1512 => ?_) (fun c1512 => ?_)
  · have h := h.1 c1512
    refine lv_iload hx hb dL_law_1517 (lv_at hl 1 rfl) ?_
    refine lv_if_ne (tgt := 1534) hx hb dL_law_1519 (by decide) (fun c1519 => ?_) (fun c1519 => ?_)
    · have h := h.2 c1519
      refine lv_goto (tgt := 1648) hx hb dL_law_1534 (by decide) ?_
      refine lv_iinc (v := (i + 8)) (lv' := [(4, .int (i + 8)), (6, .int r1501), (5, .int r1483), (0, .ref b), (1, .ref (dA 0)), (2, .ref (mA 0)), (3, .ref (oA 0))]) hx hb dL_law_1648 hl (k := 6) rfl (by first | rfl | decide) (by decide) rfl (fun ls hl => ?_)
      refine lv_goto (tgt := 23) hx hb dL_law_1651 (by decide) ?_
      refine W.widen (k := cells + 210) (n := slots + 6594) (by first | (dsimp only [room_1]; omega) | omega | exact Nat.le_of_ble_eq_true rfl) (by first | (dsimp only [room_1]; omega) | omega | exact Nat.le_of_ble_eq_true rfl) ?_
      exact hk _ _ _ _ _ _ _ hP hD hS _ (lv_sub hl [3, 4, 5, 6, 0] rfl) h
    · have h := h.1 c1519
      refine lv_aload_n hx hb dL_law_1522 rfl (lv_at hl 5 rfl) ?_
      refine lv_iconst (v := 0) hx hb dL_law_1523 (by decide) ?_
      refine va_lald hx hb hK hP 34 2 rfl rfl (show ¬ ((0 : Int32) < 0 ∨ 1 ≤ (0 : Int32).toNatClampNeg) from by decide) dL_law_1524 ?_
      refine lv_iload hx hb dL_law_1525 (lv_at hl 0 rfl) ?_
      refine lv_i2l hx hb dL_law_1527 rfl ?_
      refine W.lcmp hx hb dL_law_1528 ?_
      refine lv_if_eq (tgt := 1534) hx hb dL_law_1529 (by decide) (fun c1529 => ?_) (fun c1529 => ?_)
      · have h := h.1 c1529
        refine lv_goto (tgt := 1648) hx hb dL_law_1534 (by decide) ?_
        refine lv_iinc (v := (i + 8)) (lv' := [(4, .int (i + 8)), (6, .int r1501), (5, .int r1483), (0, .ref b), (1, .ref (dA 0)), (2, .ref (mA 0)), (3, .ref (oA 0))]) hx hb dL_law_1648 hl (k := 6) rfl (by first | rfl | decide) (by decide) rfl (fun ls hl => ?_)
        refine lv_goto (tgt := 23) hx hb dL_law_1651 (by decide) ?_
        refine W.widen (k := cells + 210) (n := slots + 6594) (by first | (dsimp only [room_1]; omega) | omega | exact Nat.le_of_ble_eq_true rfl) (by first | (dsimp only [room_1]; omega) | omega | exact Nat.le_of_ble_eq_true rfl) ?_
        exact hk _ _ _ _ _ _ _ hP hD hS _ (lv_sub hl [3, 4, 5, 6, 0] rfl) h
      · have h := h.2 c1529
        refine lv_iconst (v := 0) hx hb dL_law_1532 (by decide) ?_
        exact (show False from h).elim
  · have h := h.2 c1512
    refine lv_iconst (v := 0) hx hb dL_law_1515 (by decide) ?_
    exact (show False from h).elim
def wpLc_1537 (K : Int32 → DS → MS → SS → (Nat → Int64) → Prop) (L : Nat) (xs : Nat → Int32) (i : Int32) (d : DS) (mo : MS) (x : SS) (w : Nat → Int64) : Prop := vp_in (i + 1) L ∧ (wpL_bestToPay (fun r1545 d1545 w1545 => vp_in (i + 1) L ∧ (wpX3_bestToPay (fun r1557 mo1557 => wpX3_thrown (fun r1563 => (r1563 = r1545 → (r1545 = 0 → ((lg_cmp (w1545 (0 : Int32).toNatClampNeg) r1557.toInt64) = 0 → K (i + 8) d1545 mo1557 x w1545) ∧ (¬ (lg_cmp (w1545 (0 : Int32).toNatClampNeg) r1557.toInt64) = 0 → False)) ∧ (¬ r1545 = 0 → K (i + 8) d1545 mo1557 x w1545)) ∧ (¬ r1563 = r1545 → False)) mo1557) mo (xs (i + 1).toNatClampNeg))) d w (xs (i + 1).toNatClampNeg))
set_option maxHeartbeats 4000000 in
set_option maxRecDepth 100000 in
theorem lc_1537 {p : Program} {l : Launch} {e : Env} {s : State} {m : MethodId} {below : List Frame} {meth : Method} {c : Code} {b L : Nat} {xs : Nat → Int32} {D : va_G} {cI cB cJ : ClassId} {dA bA aA tA mA oA : Nat → Nat} {Q : State → Prop} {cells slots : Nat} {K : Int32 → DS → MS → SS → (Nat → Int64) → Prop} (hfl : l.stackTraces = false) (hs0 : zS s) (C : zC D (zty cI cB cJ) p s m #[Value.ref b] meth c cL_law RL ret 9) (hA : ∀ q : Nat, s.heap.size ≤ q → (fun q : Nat => s.heap.size ≤ q) q) (hG : zG s (fun q : Nat => s.heap.size ≤ q) s s.heap) (hX : va_X b L xs s s.heap) (hbl : b < s.heap.size) (hcs : cells + 210 ≤ 635979 ∧ slots + 6594 ≤ 7188166)
    (hk : ∀ (i : Int32) (d : DS) (mo : MS) (x : SS) (w : Nat → Int64) (H : Heap) (locs : List Loc), va_P D vwCl (wD cI dA bA aA tA d ++ wM cI mA mo ++ wS cB (fun _ : Nat => mA 10) x ++ [((oA 0), .inl (cJ, 1, .inr (.inl w)))]) H → va_D (fun q : Nat => s.heap.size ≤ q) (wD cI dA bA aA tA d ++ wM cI mA mo ++ wS cB (fun _ : Nat => mA 10) x ++ [((oA 0), .inl (cJ, 1, .inr (.inl w)))]) → va_S (fun q : Nat => s.heap.size ≤ q) s.heap H locs → ∀ ls : Array Slot, lv_has ls 9 [(0, .ref b), (1, .ref (dA 0)), (2, .ref (mA 0)), (3, .ref (oA 0)), (4, .int i)] → K i d mo x w → W p l e room_1 s m #[Value.ref b] below meth c H locs (cells + 210) (slots + 6594) Q (F0 m 23 ls []))
    (i : Int32) (d : DS) (mo : MS) (x : SS) (w : Nat → Int64) (H : Heap) (locs : List Loc) (hP : va_P D vwCl (wD cI dA bA aA tA d ++ wM cI mA mo ++ wS cB (fun _ : Nat => mA 10) x ++ [((oA 0), .inl (cJ, 1, .inr (.inl w)))]) H) (hD : va_D (fun q : Nat => s.heap.size ≤ q) (wD cI dA bA aA tA d ++ wM cI mA mo ++ wS cB (fun _ : Nat => mA 10) x ++ [((oA 0), .inl (cJ, 1, .inr (.inl w)))])) (hS : va_S (fun q : Nat => s.heap.size ≤ q) s.heap H locs) (ls : Array Slot) (hl : lv_has ls 9 [(0, .ref b), (1, .ref (dA 0)), (2, .ref (mA 0)), (3, .ref (oA 0)), (4, .int i)]) (h : wpLc_1537 K L xs i d mo x w) : W p l e room_1 s m #[Value.ref b] below meth c H locs cells slots Q (F0 m 1537 ls []) := by
  have hx := C.1
  have hb := C.2.1
  have hts := C.2.2.1
  have hown := C.2.2.2.1
  have hml := C.2.2.2.2.2.1
  have hK := C.2.2.2.2.2.2.2
  have hbA : ¬ (fun q : Nat => s.heap.size ≤ q) b := Nat.not_le.mpr hbl
  unfold wpLc_1537 at h
  refine lv_aload_n hx hb dL_law_1537 rfl (lv_at hl 1 rfl) ?_
  refine lv_aload_n hx hb dL_law_1538 rfl (lv_at hl 0 rfl) ?_
  refine lv_iload hx hb dL_law_1539 (lv_at hl 4 rfl) ?_
  refine lv_iconst (v := 1) hx hb dL_law_1541 (by decide) ?_
  refine lv_iadd hx hb dL_law_1542 ?_
  obtain ⟨g9, h⟩ := h
  refine va_sld hx hb hX hbl hbA hS g9 dL_law_1543 ?_
  refine lv_aload_n hx hb dL_law_1544 rfl (lv_at hl 3 rfl) ?_
  refine z_WH (As := [.ref (dA 0), .int (xs (i + 1).toNatClampNeg), .ref (oA 0)]) (rest := []) (wr := (wM cI mA mo ++ wS cB (fun _ : Nat => mA 10) x : va_W)) (wN := (fun u : Int32 × DS × (Nat → Int64) => wD cI dA bA aA tA u.2.1 ++ wM cI mA mo ++ wS cB (fun _ : Nat => mA 10) x ++ [((oA 0), .inl (cJ, 1, .inr (.inl u.2.2)))])) [0, 1, 2, 3, 4, 5, 6, 7, 8, 9, 10, 11, 12, 13, 14, 15, 16, 17, 18, 19, 20, 21, 34] [22, 23, 24, 25, 26, 27, 28, 29, 30, 31, 32, 33] [12, 13, 14, 15, 16, 17, 18, 19, 20, 21, 22, 23, 24, 25, 26, 27, 28, 29, 30, 31, 32, 33, 0, 1, 2, 3, 4, 5, 6, 7, 8, 9, 10, 11, 34] C hG hA hP hD hS (c_L_bestToPay hfl hs0 D cI cB cJ dA bA aA tA oA d w (xs (i + 1).toNatClampNeg) h) q782 v_L_bestToPay rfl rfl ⟨by decide, by decide, by decide⟩ (by decide) (fun _ => rfl) rfl ⟨(by first | (dsimp only [room_1]; omega) | omega | exact Nat.le_of_ble_eq_true rfl), (by first | (dsimp only [room_1]; omega) | omega | exact Nat.le_of_ble_eq_true rfl)⟩ ⟨(by first | (dsimp only [room_1]; omega) | omega | exact Nat.le_of_ble_eq_true rfl), (by first | (dsimp only [room_1]; omega) | omega | exact Nat.le_of_ble_eq_true rfl)⟩ hl.1 rfl (lv_room (by first | (dsimp only [room_1]; omega) | omega | exact Nat.le_of_ble_eq_true rfl)) dL_law_1545 (fun u H locs h hP hD hS => ?_)
  obtain ⟨r1545, d1545, w1545⟩ := u
  have hP : va_P D vwCl (wD cI dA bA aA tA d1545 ++ wM cI mA mo ++ wS cB (fun _ : Nat => mA 10) x ++ [((oA 0), .inl (cJ, 1, .inr (.inl w1545)))]) H := hP
  have hD : va_D (fun q : Nat => s.heap.size ≤ q) (wD cI dA bA aA tA d1545 ++ wM cI mA mo ++ wS cB (fun _ : Nat => mA 10) x ++ [((oA 0), .inl (cJ, 1, .inr (.inl w1545)))]) := hD
  refine lv_istore (lv' := [(5, .int r1545), (0, .ref b), (1, .ref (dA 0)), (2, .ref (mA 0)), (3, .ref (oA 0)), (4, .int i)]) hx hb dL_law_1548 hl (by decide) rfl (fun ls hl => ?_)
  refine lv_aload_n hx hb dL_law_1550 rfl (lv_at hl 3 rfl) ?_
  refine lv_aload_n hx hb dL_law_1551 rfl (lv_at hl 1 rfl) ?_
  refine lv_iload hx hb dL_law_1552 (lv_at hl 5 rfl) ?_
  refine lv_iconst (v := 1) hx hb dL_law_1554 (by decide) ?_
  refine lv_iadd hx hb dL_law_1555 ?_
  obtain ⟨g9, h⟩ := h
  refine va_sld hx hb hX hbl hbA hS g9 dL_law_1556 ?_
  refine z_WV (As := [.int (xs (i + 1).toNatClampNeg)]) (rest := []) (wr := (wD cI dA bA aA tA d1545 ++ wS cB (fun _ : Nat => mA 10) x ++ [((oA 0), .inl (cJ, 1, .inr (.inl w1545)))] : va_W)) (wN := (fun u : Int32 × MS => wD cI dA bA aA tA d1545 ++ wM cI mA u.2 ++ wS cB (fun _ : Nat => mA 10) x ++ [((oA 0), .inl (cJ, 1, .inr (.inl w1545)))])) [22, 23, 24, 25, 26, 27, 28, 29, 30, 31] [0, 1, 2, 3, 4, 5, 6, 7, 8, 9, 10, 11, 12, 13, 14, 15, 16, 17, 18, 19, 20, 21, 32, 33, 34] [0, 1, 2, 3, 4, 5, 6, 7, 8, 9, 10, 11, 12, 13, 14, 15, 16, 17, 18, 19, 20, 21, 25, 26, 27, 28, 29, 30, 31, 32, 33, 34, 22, 23, 24] C hG hA hP hD hS (c_X3_bestToPay hfl hs0 D cI cB cJ mA mo (xs (i + 1).toNatClampNeg) h) q783 v_X3_bestToPay rfl rfl ⟨by decide, by decide, by decide⟩ (by decide) (fun _ => rfl) rfl rfl rfl ⟨(by first | (dsimp only [room_1]; omega) | omega | exact Nat.le_of_ble_eq_true rfl), (by first | (dsimp only [room_1]; omega) | omega | exact Nat.le_of_ble_eq_true rfl)⟩ ⟨(by first | (dsimp only [room_1]; omega) | omega | exact Nat.le_of_ble_eq_true rfl), (by first | (dsimp only [room_1]; omega) | omega | exact Nat.le_of_ble_eq_true rfl)⟩ hl.1 rfl (lv_room (by first | (dsimp only [room_1]; omega) | omega | exact Nat.le_of_ble_eq_true rfl)) dL_law_1557 (fun u H locs h hP hD hS => ?_)
  obtain ⟨r1557, mo1557⟩ := u
  have hP : va_P D vwCl (wD cI dA bA aA tA d1545 ++ wM cI mA mo1557 ++ wS cB (fun _ : Nat => mA 10) x ++ [((oA 0), .inl (cJ, 1, .inr (.inl w1545)))]) H := hP
  have hD : va_D (fun q : Nat => s.heap.size ≤ q) (wD cI dA bA aA tA d1545 ++ wM cI mA mo1557 ++ wS cB (fun _ : Nat => mA 10) x ++ [((oA 0), .inl (cJ, 1, .inr (.inl w1545)))]) := hD
  refine lv_istore (lv' := [(6, .int r1557), (5, .int r1545), (0, .ref b), (1, .ref (dA 0)), (2, .ref (mA 0)), (3, .ref (oA 0)), (4, .int i)]) hx hb dL_law_1560 hl (by decide) rfl (fun ls hl => ?_)
  refine lv_aload_n hx hb dL_law_1562 rfl (lv_at hl 4 rfl) ?_
  refine z_RV (As := []) (rest := []) [22, 23, 24, 25, 26, 27, 28, 29, 30, 31] C (hG.kept hS.1 hS.2.1).none hP (c_X3_thrown hfl hs0 D cI cB cJ mA mo1557 h) q650 v_X3_thrown rfl rfl rfl rfl ⟨(by first | (dsimp only [room_1]; omega) | omega | exact Nat.le_of_ble_eq_true rfl), (by first | (dsimp only [room_1]; omega) | omega | exact Nat.le_of_ble_eq_true rfl)⟩ ⟨(by first | (dsimp only [room_1]; omega) | omega | exact Nat.le_of_ble_eq_true rfl), (by first | (dsimp only [room_1]; omega) | omega | exact Nat.le_of_ble_eq_true rfl)⟩ hl.1 rfl (lv_room (by first | (dsimp only [room_1]; omega) | omega | exact Nat.le_of_ble_eq_true rfl)) dL_law_1563 (fun r1563 h => ?_)
  refine lv_iload hx hb dL_law_1566 (lv_at hl 1 rfl) ?_
  refine lv_icmp_eq (tgt := 1573) hx hb dL_law_1568 (by decide) (fun c1568 => ?_) (fun c1568 => ?_)
  · have h := h.1 c1568
    refine lv_iload hx hb dL_law_1573 (lv_at hl 1 rfl) ?_
    refine lv_if_ne (tgt := 1590) hx hb dL_law_1575 (by decide) (fun c1575 => ?_) (fun c1575 => ?_)
    · have h := h.2 c1575
      refine lv_goto (tgt := 1648) hx hb dL_law_1590 (by decide) ?_
      refine lv_iinc (v := (i + 8)) (lv' := [(4, .int (i + 8)), (6, .int r1557), (5, .int r1545), (0, .ref b), (1, .ref (dA 0)), (2, .ref (mA 0)), (3, .ref (oA 0))]) hx hb dL_law_1648 hl (k := 6) rfl (by first | rfl | decide) (by decide) rfl (fun ls hl => ?_)
      refine lv_goto (tgt := 23) hx hb dL_law_1651 (by decide) ?_
      refine W.widen (k := cells + 210) (n := slots + 6594) (by first | (dsimp only [room_1]; omega) | omega | exact Nat.le_of_ble_eq_true rfl) (by first | (dsimp only [room_1]; omega) | omega | exact Nat.le_of_ble_eq_true rfl) ?_
      exact hk _ _ _ _ _ _ _ hP hD hS _ (lv_sub hl [3, 4, 5, 6, 0] rfl) h
    · have h := h.1 c1575
      refine lv_aload_n hx hb dL_law_1578 rfl (lv_at hl 5 rfl) ?_
      refine lv_iconst (v := 0) hx hb dL_law_1579 (by decide) ?_
      refine va_lald hx hb hK hP 34 2 rfl rfl (show ¬ ((0 : Int32) < 0 ∨ 1 ≤ (0 : Int32).toNatClampNeg) from by decide) dL_law_1580 ?_
      refine lv_iload hx hb dL_law_1581 (lv_at hl 0 rfl) ?_
      refine lv_i2l hx hb dL_law_1583 rfl ?_
      refine W.lcmp hx hb dL_law_1584 ?_
      refine lv_if_eq (tgt := 1590) hx hb dL_law_1585 (by decide) (fun c1585 => ?_) (fun c1585 => ?_)
      · have h := h.1 c1585
        refine lv_goto (tgt := 1648) hx hb dL_law_1590 (by decide) ?_
        refine lv_iinc (v := (i + 8)) (lv' := [(4, .int (i + 8)), (6, .int r1557), (5, .int r1545), (0, .ref b), (1, .ref (dA 0)), (2, .ref (mA 0)), (3, .ref (oA 0))]) hx hb dL_law_1648 hl (k := 6) rfl (by first | rfl | decide) (by decide) rfl (fun ls hl => ?_)
        refine lv_goto (tgt := 23) hx hb dL_law_1651 (by decide) ?_
        refine W.widen (k := cells + 210) (n := slots + 6594) (by first | (dsimp only [room_1]; omega) | omega | exact Nat.le_of_ble_eq_true rfl) (by first | (dsimp only [room_1]; omega) | omega | exact Nat.le_of_ble_eq_true rfl) ?_
        exact hk _ _ _ _ _ _ _ hP hD hS _ (lv_sub hl [3, 4, 5, 6, 0] rfl) h
      · have h := h.2 c1585
        refine lv_iconst (v := 0) hx hb dL_law_1588 (by decide) ?_
        exact (show False from h).elim
  · have h := h.2 c1568
    refine lv_iconst (v := 0) hx hb dL_law_1571 (by decide) ?_
    exact (show False from h).elim
def wpLc_1593 (K : Int32 → DS → MS → SS → (Nat → Int64) → Prop) (L : Nat) (xs : Nat → Int32) (i : Int32) (d : DS) (mo : MS) (x : SS) (w : Nat → Int64) : Prop := wpX2_meanPurse (fun r1594 => wpX3_meanPurse (fun r1600 mo1600 => ((Op.cmpValue (FP.dcmp r1594 r1600) .l) = 0 → K (i + 8) d mo1600 x w) ∧ (¬ (Op.cmpValue (FP.dcmp r1594 r1600) .l) = 0 → ((Op.cmpValue (FP.dcmp r1594 r1594) .l) = 0 → False) ∧ (¬ (Op.cmpValue (FP.dcmp r1594 r1594) .l) = 0 → ((Op.cmpValue (FP.dcmp r1600 r1600) .l) = 0 → False) ∧ (¬ (Op.cmpValue (FP.dcmp r1600 r1600) .l) = 0 → K (i + 8) d mo1600 x w)))) mo) d
set_option maxHeartbeats 4000000 in
set_option maxRecDepth 100000 in
theorem lc_1593 {p : Program} {l : Launch} {e : Env} {s : State} {m : MethodId} {below : List Frame} {meth : Method} {c : Code} {b L : Nat} {xs : Nat → Int32} {D : va_G} {cI cB cJ : ClassId} {dA bA aA tA mA oA : Nat → Nat} {Q : State → Prop} {cells slots : Nat} {K : Int32 → DS → MS → SS → (Nat → Int64) → Prop} (hfl : l.stackTraces = false) (hs0 : zS s) (C : zC D (zty cI cB cJ) p s m #[Value.ref b] meth c cL_law RL ret 9) (hA : ∀ q : Nat, s.heap.size ≤ q → (fun q : Nat => s.heap.size ≤ q) q) (hG : zG s (fun q : Nat => s.heap.size ≤ q) s s.heap) (hX : va_X b L xs s s.heap) (hbl : b < s.heap.size) (hcs : cells + 210 ≤ 635979 ∧ slots + 6594 ≤ 7188166)
    (hk : ∀ (i : Int32) (d : DS) (mo : MS) (x : SS) (w : Nat → Int64) (H : Heap) (locs : List Loc), va_P D vwCl (wD cI dA bA aA tA d ++ wM cI mA mo ++ wS cB (fun _ : Nat => mA 10) x ++ [((oA 0), .inl (cJ, 1, .inr (.inl w)))]) H → va_D (fun q : Nat => s.heap.size ≤ q) (wD cI dA bA aA tA d ++ wM cI mA mo ++ wS cB (fun _ : Nat => mA 10) x ++ [((oA 0), .inl (cJ, 1, .inr (.inl w)))]) → va_S (fun q : Nat => s.heap.size ≤ q) s.heap H locs → ∀ ls : Array Slot, lv_has ls 9 [(0, .ref b), (1, .ref (dA 0)), (2, .ref (mA 0)), (3, .ref (oA 0)), (4, .int i)] → K i d mo x w → W p l e room_1 s m #[Value.ref b] below meth c H locs (cells + 210) (slots + 6594) Q (F0 m 23 ls []))
    (i : Int32) (d : DS) (mo : MS) (x : SS) (w : Nat → Int64) (H : Heap) (locs : List Loc) (hP : va_P D vwCl (wD cI dA bA aA tA d ++ wM cI mA mo ++ wS cB (fun _ : Nat => mA 10) x ++ [((oA 0), .inl (cJ, 1, .inr (.inl w)))]) H) (hD : va_D (fun q : Nat => s.heap.size ≤ q) (wD cI dA bA aA tA d ++ wM cI mA mo ++ wS cB (fun _ : Nat => mA 10) x ++ [((oA 0), .inl (cJ, 1, .inr (.inl w)))])) (hS : va_S (fun q : Nat => s.heap.size ≤ q) s.heap H locs) (ls : Array Slot) (hl : lv_has ls 9 [(0, .ref b), (1, .ref (dA 0)), (2, .ref (mA 0)), (3, .ref (oA 0)), (4, .int i)]) (h : wpLc_1593 K L xs i d mo x w) : W p l e room_1 s m #[Value.ref b] below meth c H locs cells slots Q (F0 m 1593 ls []) := by
  have hx := C.1
  have hb := C.2.1
  have hts := C.2.2.1
  have hown := C.2.2.2.1
  have hml := C.2.2.2.2.2.1
  have hK := C.2.2.2.2.2.2.2
  have hbA : ¬ (fun q : Nat => s.heap.size ≤ q) b := Nat.not_le.mpr hbl
  unfold wpLc_1593 at h
  refine lv_aload_n hx hb dL_law_1593 rfl (lv_at hl 1 rfl) ?_
  refine z_RV (As := []) (rest := []) [0, 1, 2, 3, 4, 5, 6, 7, 8, 9, 10, 11, 12, 13, 14, 15, 16, 17, 18, 19, 20, 21] C (hG.kept hS.1 hS.2.1).none hP (c_X2_meanPurse hfl hs0 D cI cB cJ dA bA aA tA d h) q787 v_X2_meanPurse rfl rfl rfl rfl ⟨(by first | (dsimp only [room_1]; omega) | omega | exact Nat.le_of_ble_eq_true rfl), (by first | (dsimp only [room_1]; omega) | omega | exact Nat.le_of_ble_eq_true rfl)⟩ ⟨(by first | (dsimp only [room_1]; omega) | omega | exact Nat.le_of_ble_eq_true rfl), (by first | (dsimp only [room_1]; omega) | omega | exact Nat.le_of_ble_eq_true rfl)⟩ hl.1 rfl (lv_room (by first | (dsimp only [room_1]; omega) | omega | exact Nat.le_of_ble_eq_true rfl)) dL_law_1594 (fun r1594 h => ?_)
  refine lv_dstore (lv' := [(5, .double r1594), (0, .ref b), (1, .ref (dA 0)), (2, .ref (mA 0)), (3, .ref (oA 0)), (4, .int i)]) hx hb dL_law_1597 hl (by decide) rfl (fun ls hl => ?_)
  refine lv_aload_n hx hb dL_law_1599 rfl (lv_at hl 3 rfl) ?_
  refine z_WV (As := []) (rest := []) (wr := (wD cI dA bA aA tA d ++ wS cB (fun _ : Nat => mA 10) x ++ [((oA 0), .inl (cJ, 1, .inr (.inl w)))] : va_W)) (wN := (fun u : UInt64 × MS => wD cI dA bA aA tA d ++ wM cI mA u.2 ++ wS cB (fun _ : Nat => mA 10) x ++ [((oA 0), .inl (cJ, 1, .inr (.inl w)))])) [22, 23, 24, 25, 26, 27, 28, 29, 30, 31] [0, 1, 2, 3, 4, 5, 6, 7, 8, 9, 10, 11, 12, 13, 14, 15, 16, 17, 18, 19, 20, 21, 32, 33, 34] [0, 1, 2, 3, 4, 5, 6, 7, 8, 9, 10, 11, 12, 13, 14, 15, 16, 17, 18, 19, 20, 21, 25, 26, 27, 28, 29, 30, 31, 32, 33, 34, 22, 23, 24] C hG hA hP hD hS (c_X3_meanPurse hfl hs0 D cI cB cJ mA mo h) q788 v_X3_meanPurse rfl rfl ⟨by decide, by decide, by decide⟩ (by decide) (fun _ => rfl) rfl rfl rfl ⟨(by first | (dsimp only [room_1]; omega) | omega | exact Nat.le_of_ble_eq_true rfl), (by first | (dsimp only [room_1]; omega) | omega | exact Nat.le_of_ble_eq_true rfl)⟩ ⟨(by first | (dsimp only [room_1]; omega) | omega | exact Nat.le_of_ble_eq_true rfl), (by first | (dsimp only [room_1]; omega) | omega | exact Nat.le_of_ble_eq_true rfl)⟩ hl.1 rfl (lv_room (by first | (dsimp only [room_1]; omega) | omega | exact Nat.le_of_ble_eq_true rfl)) dL_law_1600 (fun u H locs h hP hD hS => ?_)
  obtain ⟨r1600, mo1600⟩ := u
  have hP : va_P D vwCl (wD cI dA bA aA tA d ++ wM cI mA mo1600 ++ wS cB (fun _ : Nat => mA 10) x ++ [((oA 0), .inl (cJ, 1, .inr (.inl w)))]) H := hP
  have hD : va_D (fun q : Nat => s.heap.size ≤ q) (wD cI dA bA aA tA d ++ wM cI mA mo1600 ++ wS cB (fun _ : Nat => mA 10) x ++ [((oA 0), .inl (cJ, 1, .inr (.inl w)))]) := hD
  refine lv_dstore (lv' := [(7, .double r1600), (5, .double r1594), (0, .ref b), (1, .ref (dA 0)), (2, .ref (mA 0)), (3, .ref (oA 0)), (4, .int i)]) hx hb dL_law_1603 hl (by decide) rfl (fun ls hl => ?_)
  refine lv_dload hx hb dL_law_1605 (lv_at hl 1 rfl) ?_
  refine lv_dload hx hb dL_law_1607 (lv_at hl 0 rfl) ?_
  refine lv_dcmp hx hb dL_law_1609 ?_
  refine lv_if_eq (tgt := 1631) hx hb dL_law_1610 (by decide) (fun c1610 => ?_) (fun c1610 => ?_)
  · have h := h.1 c1610
    refine lv_goto (tgt := 1648) hx hb dL_law_1631 (by decide) ?_
    refine lv_iinc (v := (i + 8)) (lv' := [(4, .int (i + 8)), (7, .double r1600), (5, .double r1594), (0, .ref b), (1, .ref (dA 0)), (2, .ref (mA 0)), (3, .ref (oA 0))]) hx hb dL_law_1648 hl (k := 6) rfl (by first | rfl | decide) (by decide) rfl (fun ls hl => ?_)
    refine lv_goto (tgt := 23) hx hb dL_law_1651 (by decide) ?_
    refine W.widen (k := cells + 210) (n := slots + 6594) (by first | (dsimp only [room_1]; omega) | omega | exact Nat.le_of_ble_eq_true rfl) (by first | (dsimp only [room_1]; omega) | omega | exact Nat.le_of_ble_eq_true rfl) ?_
    exact hk _ _ _ _ _ _ _ hP hD hS _ (lv_sub hl [3, 4, 5, 6, 0] rfl) h
  · have h := h.2 c1610
    refine lv_dload hx hb dL_law_1613 (lv_at hl 1 rfl) ?_
    refine lv_dload hx hb dL_law_1615 (lv_at hl 1 rfl) ?_
    refine lv_dcmp hx hb dL_law_1617 ?_
    refine lv_if_eq (tgt := 1629) hx hb dL_law_1618 (by decide) (fun c1618 => ?_) (fun c1618 => ?_)
    · have h := h.1 c1618
      refine lv_iconst (v := 0) hx hb dL_law_1629 (by decide) ?_
      exact (show False from h).elim
    · have h := h.2 c1618
      refine lv_dload hx hb dL_law_1621 (lv_at hl 0 rfl) ?_
      refine lv_dload hx hb dL_law_1623 (lv_at hl 0 rfl) ?_
      refine lv_dcmp hx hb dL_law_1625 ?_
      refine lv_if_ne (tgt := 1631) hx hb dL_law_1626 (by decide) (fun c1626 => ?_) (fun c1626 => ?_)
      · have h := h.2 c1626
        refine lv_goto (tgt := 1648) hx hb dL_law_1631 (by decide) ?_
        refine lv_iinc (v := (i + 8)) (lv' := [(4, .int (i + 8)), (7, .double r1600), (5, .double r1594), (0, .ref b), (1, .ref (dA 0)), (2, .ref (mA 0)), (3, .ref (oA 0))]) hx hb dL_law_1648 hl (k := 6) rfl (by first | rfl | decide) (by decide) rfl (fun ls hl => ?_)
        refine lv_goto (tgt := 23) hx hb dL_law_1651 (by decide) ?_
        refine W.widen (k := cells + 210) (n := slots + 6594) (by first | (dsimp only [room_1]; omega) | omega | exact Nat.le_of_ble_eq_true rfl) (by first | (dsimp only [room_1]; omega) | omega | exact Nat.le_of_ble_eq_true rfl) ?_
        exact hk _ _ _ _ _ _ _ hP hD hS _ (lv_sub hl [3, 4, 5, 6, 0] rfl) h
      · have h := h.1 c1626
        refine lv_iconst (v := 0) hx hb dL_law_1629 (by decide) ?_
        exact (show False from h).elim
def wpLc_1634 (K : Int32 → DS → MS → SS → (Nat → Int64) → Prop) (L : Nat) (xs : Nat → Int32) (i : Int32) (d : DS) (mo : MS) (x : SS) (w : Nat → Int64) : Prop := wpX2_digest (fun r1635 d1635 => wpX3_digest (fun r1639 mo1639 x1639 => ((lg_cmp r1635 r1639) = 0 → K (i + 8) d1635 mo1639 x1639 w) ∧ (¬ (lg_cmp r1635 r1639) = 0 → False)) mo x) d
set_option maxHeartbeats 4000000 in
set_option maxRecDepth 100000 in
theorem lc_1634 {p : Program} {l : Launch} {e : Env} {s : State} {m : MethodId} {below : List Frame} {meth : Method} {c : Code} {b L : Nat} {xs : Nat → Int32} {D : va_G} {cI cB cJ : ClassId} {dA bA aA tA mA oA : Nat → Nat} {Q : State → Prop} {cells slots : Nat} {K : Int32 → DS → MS → SS → (Nat → Int64) → Prop} (hfl : l.stackTraces = false) (hs0 : zS s) (C : zC D (zty cI cB cJ) p s m #[Value.ref b] meth c cL_law RL ret 9) (hA : ∀ q : Nat, s.heap.size ≤ q → (fun q : Nat => s.heap.size ≤ q) q) (hG : zG s (fun q : Nat => s.heap.size ≤ q) s s.heap) (hX : va_X b L xs s s.heap) (hbl : b < s.heap.size) (hcs : cells + 210 ≤ 635979 ∧ slots + 6594 ≤ 7188166)
    (hk : ∀ (i : Int32) (d : DS) (mo : MS) (x : SS) (w : Nat → Int64) (H : Heap) (locs : List Loc), va_P D vwCl (wD cI dA bA aA tA d ++ wM cI mA mo ++ wS cB (fun _ : Nat => mA 10) x ++ [((oA 0), .inl (cJ, 1, .inr (.inl w)))]) H → va_D (fun q : Nat => s.heap.size ≤ q) (wD cI dA bA aA tA d ++ wM cI mA mo ++ wS cB (fun _ : Nat => mA 10) x ++ [((oA 0), .inl (cJ, 1, .inr (.inl w)))]) → va_S (fun q : Nat => s.heap.size ≤ q) s.heap H locs → ∀ ls : Array Slot, lv_has ls 9 [(0, .ref b), (1, .ref (dA 0)), (2, .ref (mA 0)), (3, .ref (oA 0)), (4, .int i)] → K i d mo x w → W p l e room_1 s m #[Value.ref b] below meth c H locs (cells + 210) (slots + 6594) Q (F0 m 23 ls []))
    (i : Int32) (d : DS) (mo : MS) (x : SS) (w : Nat → Int64) (H : Heap) (locs : List Loc) (hP : va_P D vwCl (wD cI dA bA aA tA d ++ wM cI mA mo ++ wS cB (fun _ : Nat => mA 10) x ++ [((oA 0), .inl (cJ, 1, .inr (.inl w)))]) H) (hD : va_D (fun q : Nat => s.heap.size ≤ q) (wD cI dA bA aA tA d ++ wM cI mA mo ++ wS cB (fun _ : Nat => mA 10) x ++ [((oA 0), .inl (cJ, 1, .inr (.inl w)))])) (hS : va_S (fun q : Nat => s.heap.size ≤ q) s.heap H locs) (ls : Array Slot) (hl : lv_has ls 9 [(0, .ref b), (1, .ref (dA 0)), (2, .ref (mA 0)), (3, .ref (oA 0)), (4, .int i)]) (h : wpLc_1634 K L xs i d mo x w) : W p l e room_1 s m #[Value.ref b] below meth c H locs cells slots Q (F0 m 1634 ls []) := by
  have hx := C.1
  have hb := C.2.1
  have hts := C.2.2.1
  have hown := C.2.2.2.1
  have hml := C.2.2.2.2.2.1
  have hK := C.2.2.2.2.2.2.2
  have hbA : ¬ (fun q : Nat => s.heap.size ≤ q) b := Nat.not_le.mpr hbl
  unfold wpLc_1634 at h
  refine lv_aload_n hx hb dL_law_1634 rfl (lv_at hl 1 rfl) ?_
  refine z_WV (As := []) (rest := []) (wr := (wM cI mA mo ++ wS cB (fun _ : Nat => mA 10) x ++ [((oA 0), .inl (cJ, 1, .inr (.inl w)))] : va_W)) (wN := (fun u : Int64 × DS => wD cI dA bA aA tA u.2 ++ wM cI mA mo ++ wS cB (fun _ : Nat => mA 10) x ++ [((oA 0), .inl (cJ, 1, .inr (.inl w)))])) [0, 1, 2, 3, 4, 5, 6, 7, 8, 9, 10, 11, 12, 13, 14, 15, 16, 17, 18, 19, 20, 21] [22, 23, 24, 25, 26, 27, 28, 29, 30, 31, 32, 33, 34] [13, 14, 15, 16, 17, 18, 19, 20, 21, 22, 23, 24, 25, 26, 27, 28, 29, 30, 31, 32, 33, 34, 0, 1, 2, 3, 4, 5, 6, 7, 8, 9, 10, 11, 12] C hG hA hP hD hS (c_X2_digest hfl hs0 D cI cB cJ dA bA aA tA d h) q795 v_X2_digest rfl rfl ⟨by decide, by decide, by decide⟩ (by decide) (fun _ => rfl) rfl rfl rfl ⟨(by first | (dsimp only [room_1]; omega) | omega | exact Nat.le_of_ble_eq_true rfl), (by first | (dsimp only [room_1]; omega) | omega | exact Nat.le_of_ble_eq_true rfl)⟩ ⟨(by first | (dsimp only [room_1]; omega) | omega | exact Nat.le_of_ble_eq_true rfl), (by first | (dsimp only [room_1]; omega) | omega | exact Nat.le_of_ble_eq_true rfl)⟩ hl.1 rfl (lv_room (by first | (dsimp only [room_1]; omega) | omega | exact Nat.le_of_ble_eq_true rfl)) dL_law_1635 (fun u H locs h hP hD hS => ?_)
  obtain ⟨r1635, d1635⟩ := u
  have hP : va_P D vwCl (wD cI dA bA aA tA d1635 ++ wM cI mA mo ++ wS cB (fun _ : Nat => mA 10) x ++ [((oA 0), .inl (cJ, 1, .inr (.inl w)))]) H := hP
  have hD : va_D (fun q : Nat => s.heap.size ≤ q) (wD cI dA bA aA tA d1635 ++ wM cI mA mo ++ wS cB (fun _ : Nat => mA 10) x ++ [((oA 0), .inl (cJ, 1, .inr (.inl w)))]) := hD
  refine lv_aload_n hx hb dL_law_1638 rfl (lv_at hl 2 rfl) ?_
  refine z_WV (As := []) (rest := [.long r1635]) (wr := (wD cI dA bA aA tA d1635 ++ [((oA 0), .inl (cJ, 1, .inr (.inl w)))] : va_W)) (wN := (fun u : Int64 × MS × SS => wD cI dA bA aA tA d1635 ++ wM cI mA u.2.1 ++ wS cB (fun _ : Nat => mA 10) u.2.2 ++ [((oA 0), .inl (cJ, 1, .inr (.inl w)))])) [22, 23, 24, 25, 26, 27, 28, 29, 30, 31, 32, 33] [0, 1, 2, 3, 4, 5, 6, 7, 8, 9, 10, 11, 12, 13, 14, 15, 16, 17, 18, 19, 20, 21, 34] [0, 1, 2, 3, 4, 5, 6, 7, 8, 9, 10, 11, 12, 13, 14, 15, 16, 17, 18, 19, 20, 21, 23, 24, 25, 26, 27, 28, 29, 30, 31, 32, 33, 34, 22] C hG hA hP hD hS (c_X3_digest hfl hs0 D cI cB cJ mA mo x h) q796 v_X3_digest rfl rfl ⟨by decide, by decide, by decide⟩ (by decide) (fun _ => rfl) rfl rfl rfl ⟨(by first | (dsimp only [room_1]; omega) | omega | exact Nat.le_of_ble_eq_true rfl), (by first | (dsimp only [room_1]; omega) | omega | exact Nat.le_of_ble_eq_true rfl)⟩ ⟨(by first | (dsimp only [room_1]; omega) | omega | exact Nat.le_of_ble_eq_true rfl), (by first | (dsimp only [room_1]; omega) | omega | exact Nat.le_of_ble_eq_true rfl)⟩ hl.1 rfl (lv_room (by first | (dsimp only [room_1]; omega) | omega | exact Nat.le_of_ble_eq_true rfl)) dL_law_1639 (fun u H locs h hP hD hS => ?_)
  obtain ⟨r1639, mo1639, x1639⟩ := u
  have hP : va_P D vwCl (wD cI dA bA aA tA d1635 ++ wM cI mA mo1639 ++ wS cB (fun _ : Nat => mA 10) x1639 ++ [((oA 0), .inl (cJ, 1, .inr (.inl w)))]) H := hP
  have hD : va_D (fun q : Nat => s.heap.size ≤ q) (wD cI dA bA aA tA d1635 ++ wM cI mA mo1639 ++ wS cB (fun _ : Nat => mA 10) x1639 ++ [((oA 0), .inl (cJ, 1, .inr (.inl w)))]) := hD
  refine W.lcmp hx hb dL_law_1642 ?_
  refine lv_if_eq (tgt := 1648) hx hb dL_law_1643 (by decide) (fun c1643 => ?_) (fun c1643 => ?_)
  · have h := h.1 c1643
    refine lv_iinc (v := (i + 8)) (lv' := [(4, .int (i + 8)), (0, .ref b), (1, .ref (dA 0)), (2, .ref (mA 0)), (3, .ref (oA 0))]) hx hb dL_law_1648 hl (k := 4) rfl (by first | rfl | decide) (by decide) rfl (fun ls hl => ?_)
    refine lv_goto (tgt := 23) hx hb dL_law_1651 (by decide) ?_
    refine W.widen (k := cells + 210) (n := slots + 6594) (by first | (dsimp only [room_1]; omega) | omega | exact Nat.le_of_ble_eq_true rfl) (by first | (dsimp only [room_1]; omega) | omega | exact Nat.le_of_ble_eq_true rfl) ?_
    exact hk _ _ _ _ _ _ _ hP hD hS _ (lv_sub hl [1, 2, 3, 4, 0] rfl) h
  · have h := h.2 c1643
    refine lv_iconst (v := 0) hx hb dL_law_1646 (by decide) ?_
    exact (show False from h).elim

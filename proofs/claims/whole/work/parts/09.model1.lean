theorem q61 : (Jvm.Cond.fieldLink "PactClocksModel" (44 : Nat) "PactClocksModel" "thrown" "I") ∈ lw_all := mt4 55 (by decide +kernel) (by decide +kernel)
theorem q62 : (Jvm.Cond.fieldLink "PactClocksModel" (48 : Nat) "PactClocksModel" "parties" "I") ∈ lw_all := mt4 56 (by decide +kernel) (by decide +kernel)
theorem q63 : (Jvm.Cond.initialized "PactClocksModel") ∈ lw_all := mt1 4 (by decide +kernel) (by decide +kernel)
theorem q64 : (Jvm.Cond.code ({ cls := "PactClocksModel", name := "isFrom", desc := "(III)Z" } : Jvm.MethodName) prog_5_method_5_code (3 : Nat) (Option.some Jvm.ClassFile.FieldType.boolean)) ∈ lw_all := mt4 105 (by decide +kernel) (by decide +kernel)
theorem q65 : (Jvm.Cond.static ({ cls := "PactClocksModel", name := "isFrom", desc := "(III)Z" } : Jvm.MethodName)) ∈ lw_all := mt4 104 (by decide +kernel) (by decide +kernel)
theorem q66 : (Jvm.Cond.methodLink "PactClocksModel" (51 : Nat) ({ cls := "PactClocksModel", name := "isFrom", desc := "(III)Z" } : Jvm.MethodName)) ∈ lw_all := mt4 103 (by decide +kernel) (by decide +kernel)
theorem q67 : (Jvm.Cond.fieldLink "PactClocksModel" (55 : Nat) "PactClocksModel" "duties" "I") ∈ lw_all := mt4 57 (by decide +kernel) (by decide +kernel)
theorem q68 : (Jvm.Cond.fieldLink "PactClocksModel" (31 : Nat) "PactClocksModel" "now" "[I") ∈ lw_all := mt4 65 (by decide +kernel) (by decide +kernel)
theorem q69 : (Jvm.Cond.fieldLink "PactClocksModel" (34 : Nat) "PactClocksModel" "kept" "[I") ∈ lw_all := mt4 66 (by decide +kernel) (by decide +kernel)
theorem q70 : (Jvm.Cond.methodLink "PactClocksModel" (58 : Nat) ({ cls := "java/lang/System", name := "arraycopy", desc := "(Ljava/lang/Object;ILjava/lang/Object;II)V" } : Jvm.MethodName)) ∈ lw_all := mt5 214 (by decide +kernel) (by decide +kernel)
theorem q71 : (Jvm.Cond.code ({ cls := "PactClocksModel", name := "state", desc := "(I)I" } : Jvm.MethodName) prog_5_method_10_code (2 : Nat) (Option.some Jvm.ClassFile.FieldType.int)) ∈ lw_all := mt4 125 (by decide +kernel) (by decide +kernel)
theorem q72 : (Jvm.Cond.instanceMethod ({ cls := "PactClocksModel", name := "state", desc := "(I)I" } : Jvm.MethodName)) ∈ lw_all := mt4 124 (by decide +kernel) (by decide +kernel)
theorem q73 : (Cond.selects "PactClocksModel" (⟨"PactClocksModel", "state", "(I)I"⟩ : MethodName) (⟨"PactClocksModel", "state", "(I)I"⟩ : MethodName)) ∈ lw_all := mt0 13 (by decide +kernel) (by decide +kernel)
theorem q74 : (Jvm.Cond.methodLink "PactClocksModel" (64 : Nat) ({ cls := "PactClocksModel", name := "state", desc := "(I)I" } : Jvm.MethodName)) ∈ lw_all := mt4 122 (by decide +kernel) (by decide +kernel)
theorem q75 : (Jvm.Cond.fieldLink "PactClocksModel" (16 : Nat) "PactClocksModel" "amount" "[I") ∈ lw_all := mt4 60 (by decide +kernel) (by decide +kernel)
theorem q76 : (Jvm.Cond.fieldLink "PactClocksModel" (25 : Nat) "PactClocksModel" "penalty" "[I") ∈ lw_all := mt4 63 (by decide +kernel) (by decide +kernel)
theorem q77 : (Jvm.Cond.fieldLink "PactClocksModel" (19 : Nat) "PactClocksModel" "days" "[I") ∈ lw_all := mt4 61 (by decide +kernel) (by decide +kernel)
theorem q78 : (Jvm.Cond.fieldLink "PactClocksModel" (28 : Nat) "PactClocksModel" "after" "[I") ∈ lw_all := mt4 64 (by decide +kernel) (by decide +kernel)
theorem q79 : (Jvm.Cond.code ({ cls := "PactClocksModel", name := "end", desc := "(II)V" } : Jvm.MethodName) prog_5_method_14_code (3 : Nat) (Option.none : Option Jvm.ClassFile.FieldType)) ∈ lw_all := mt4 129 (by decide +kernel) (by decide +kernel)
theorem q80 : (Jvm.Cond.instanceMethod ({ cls := "PactClocksModel", name := "end", desc := "(II)V" } : Jvm.MethodName)) ∈ lw_all := mt4 128 (by decide +kernel) (by decide +kernel)
theorem q81 : (Cond.selects "PactClocksModel" (⟨"PactClocksModel", "end", "(II)V"⟩ : MethodName) (⟨"PactClocksModel", "end", "(II)V"⟩ : MethodName)) ∈ lw_all := mt0 14 (by decide +kernel) (by decide +kernel)
theorem q82 : (Jvm.Cond.methodLink "PactClocksModel" (68 : Nat) ({ cls := "PactClocksModel", name := "end", desc := "(II)V" } : Jvm.MethodName)) ∈ lw_all := mt4 126 (by decide +kernel) (by decide +kernel)
theorem q83 : (Jvm.Cond.fieldLink "PactClocksModel" (9 : Nat) "PactClocksModel" "debtor" "[I") ∈ lw_all := mt4 58 (by decide +kernel) (by decide +kernel)
theorem q84 : (Jvm.Cond.fieldLink "PactClocksModel" (13 : Nat) "PactClocksModel" "creditor" "[I") ∈ lw_all := mt4 59 (by decide +kernel) (by decide +kernel)
theorem q85 : (Jvm.Cond.code ({ cls := "PactClocksModel", name := "price", desc := "(I)I" } : Jvm.MethodName) prog_5_method_12_code (2 : Nat) (Option.some Jvm.ClassFile.FieldType.int)) ∈ lw_all := mt4 149 (by decide +kernel) (by decide +kernel)
theorem q86 : (Jvm.Cond.instanceMethod ({ cls := "PactClocksModel", name := "price", desc := "(I)I" } : Jvm.MethodName)) ∈ lw_all := mt4 148 (by decide +kernel) (by decide +kernel)
theorem q87 : (Cond.selects "PactClocksModel" (⟨"PactClocksModel", "price", "(I)I"⟩ : MethodName) (⟨"PactClocksModel", "price", "(I)I"⟩ : MethodName)) ∈ lw_all := mt0 18 (by decide +kernel) (by decide +kernel)
theorem q88 : (Jvm.Cond.methodLink "PactClocksModel" (72 : Nat) ({ cls := "PactClocksModel", name := "price", desc := "(I)I" } : Jvm.MethodName)) ∈ lw_all := mt4 146 (by decide +kernel) (by decide +kernel)
theorem q89 : (Jvm.Cond.code ({ cls := "PactClocksModel", name := "move", desc := "(III)V" } : Jvm.MethodName) prog_5_method_15_code (4 : Nat) (Option.none : Option Jvm.ClassFile.FieldType)) ∈ lw_all := mt4 157 (by decide +kernel) (by decide +kernel)
theorem q90 : (Jvm.Cond.instanceMethod ({ cls := "PactClocksModel", name := "move", desc := "(III)V" } : Jvm.MethodName)) ∈ lw_all := mt4 156 (by decide +kernel) (by decide +kernel)
theorem q91 : (Cond.selects "PactClocksModel" (⟨"PactClocksModel", "move", "(III)V"⟩ : MethodName) (⟨"PactClocksModel", "move", "(III)V"⟩ : MethodName)) ∈ lw_all := mt0 20 (by decide +kernel) (by decide +kernel)
theorem q92 : (Jvm.Cond.methodLink "PactClocksModel" (75 : Nat) ({ cls := "PactClocksModel", name := "move", desc := "(III)V" } : Jvm.MethodName)) ∈ lw_all := mt4 154 (by decide +kernel) (by decide +kernel)
theorem q93 : (Jvm.Cond.code ({ cls := "PactClocksModel", name := "run", desc := "(I)V" } : Jvm.MethodName) prog_5_method_13_code (2 : Nat) (Option.none : Option Jvm.ClassFile.FieldType)) ∈ lw_all := mt4 133 (by decide +kernel) (by decide +kernel)
theorem q94 : (Jvm.Cond.instanceMethod ({ cls := "PactClocksModel", name := "run", desc := "(I)V" } : Jvm.MethodName)) ∈ lw_all := mt4 132 (by decide +kernel) (by decide +kernel)
theorem q95 : (Cond.selects "PactClocksModel" (⟨"PactClocksModel", "run", "(I)V"⟩ : MethodName) (⟨"PactClocksModel", "run", "(I)V"⟩ : MethodName)) ∈ lw_all := mt0 15 (by decide +kernel) (by decide +kernel)
theorem q96 : (Jvm.Cond.methodLink "PactClocksModel" (79 : Nat) ({ cls := "PactClocksModel", name := "run", desc := "(I)V" } : Jvm.MethodName)) ∈ lw_all := mt4 130 (by decide +kernel) (by decide +kernel)
theorem q97 : (Jvm.Cond.code ({ cls := "PactClocksModel", name := "releaseBehind", desc := "(I)I" } : Jvm.MethodName) prog_5_method_16_code (5 : Nat) (Option.some Jvm.ClassFile.FieldType.int)) ∈ lw_all := mt4 165 (by decide +kernel) (by decide +kernel)
theorem q98 : (Jvm.Cond.instanceMethod ({ cls := "PactClocksModel", name := "releaseBehind", desc := "(I)I" } : Jvm.MethodName)) ∈ lw_all := mt4 164 (by decide +kernel) (by decide +kernel)
theorem q99 : (Cond.selects "PactClocksModel" (⟨"PactClocksModel", "releaseBehind", "(I)I"⟩ : MethodName) (⟨"PactClocksModel", "releaseBehind", "(I)I"⟩ : MethodName)) ∈ lw_all := mt0 21 (by decide +kernel) (by decide +kernel)
theorem q100 : (Jvm.Cond.methodLink "PactClocksModel" (89 : Nat) ({ cls := "PactClocksModel", name := "releaseBehind", desc := "(I)I" } : Jvm.MethodName)) ∈ lw_all := mt4 162 (by decide +kernel) (by decide +kernel)
theorem q101 : (Jvm.Cond.methodLink "PactClocksModel" (83 : Nat) ({ cls := "java/lang/Math", name := "min", desc := "(II)I" } : Jvm.MethodName)) ∈ lw_all := mt4 198 (by decide +kernel) (by decide +kernel)
theorem q102 : (Jvm.Cond.fieldLink "PactClocksModel" (22 : Nat) "PactClocksModel" "cure" "[I") ∈ lw_all := mt4 62 (by decide +kernel) (by decide +kernel)
theorem q103 : (Jvm.Cond.code ({ cls := "PactClocksModel", name := "fail", desc := "(I)V" } : Jvm.MethodName) prog_5_method_18_code (3 : Nat) (Option.none : Option Jvm.ClassFile.FieldType)) ∈ lw_all := mt4 197 (by decide +kernel) (by decide +kernel)
theorem q104 : (Jvm.Cond.instanceMethod ({ cls := "PactClocksModel", name := "fail", desc := "(I)V" } : Jvm.MethodName)) ∈ lw_all := mt4 196 (by decide +kernel) (by decide +kernel)
theorem q105 : (Cond.selects "PactClocksModel" (⟨"PactClocksModel", "fail", "(I)V"⟩ : MethodName) (⟨"PactClocksModel", "fail", "(I)V"⟩ : MethodName)) ∈ lw_all := mt0 26 (by decide +kernel) (by decide +kernel)
theorem q106 : (Jvm.Cond.methodLink "PactClocksModel" (92 : Nat) ({ cls := "PactClocksModel", name := "fail", desc := "(I)V" } : Jvm.MethodName)) ∈ lw_all := mt4 194 (by decide +kernel) (by decide +kernel)
theorem q107 : (Jvm.Cond.code ({ cls := "PactClocksModel", name := "isOpen", desc := "(I)Z" } : Jvm.MethodName) prog_5_method_11_code (2 : Nat) (Option.some Jvm.ClassFile.FieldType.boolean)) ∈ lw_all := mt4 145 (by decide +kernel) (by decide +kernel)
theorem q108 : (Jvm.Cond.instanceMethod ({ cls := "PactClocksModel", name := "isOpen", desc := "(I)Z" } : Jvm.MethodName)) ∈ lw_all := mt4 144 (by decide +kernel) (by decide +kernel)
theorem q109 : (Cond.selects "PactClocksModel" (⟨"PactClocksModel", "isOpen", "(I)Z"⟩ : MethodName) (⟨"PactClocksModel", "isOpen", "(I)Z"⟩ : MethodName)) ∈ lw_all := mt0 17 (by decide +kernel) (by decide +kernel)
theorem q110 : (Jvm.Cond.methodLink "PactClocksModel" (95 : Nat) ({ cls := "PactClocksModel", name := "isOpen", desc := "(I)Z" } : Jvm.MethodName)) ∈ lw_all := mt4 142 (by decide +kernel) (by decide +kernel)
theorem q111 : (Jvm.Cond.code ({ cls := "PactClocksModel", name := "tick", desc := "(I)V" } : Jvm.MethodName) prog_5_method_19_code (3 : Nat) (Option.none : Option Jvm.ClassFile.FieldType)) ∈ lw_all := mt4 193 (by decide +kernel) (by decide +kernel)
theorem q112 : (Jvm.Cond.instanceMethod ({ cls := "PactClocksModel", name := "tick", desc := "(I)V" } : Jvm.MethodName)) ∈ lw_all := mt4 192 (by decide +kernel) (by decide +kernel)
theorem q113 : (Cond.selects "PactClocksModel" (⟨"PactClocksModel", "tick", "(I)V"⟩ : MethodName) (⟨"PactClocksModel", "tick", "(I)V"⟩ : MethodName)) ∈ lw_all := mt0 25 (by decide +kernel) (by decide +kernel)
theorem q114 : (Jvm.Cond.methodLink "PactClocksModel" (99 : Nat) ({ cls := "PactClocksModel", name := "tick", desc := "(I)V" } : Jvm.MethodName)) ∈ lw_all := mt4 190 (by decide +kernel) (by decide +kernel)
theorem q115 : (Jvm.Cond.code ({ cls := "PactClocksModel", name := "dayOn", desc := "()V" } : Jvm.MethodName) prog_5_method_20_code (2 : Nat) (Option.none : Option Jvm.ClassFile.FieldType)) ∈ lw_all := mt4 189 (by decide +kernel) (by decide +kernel)
theorem q116 : (Jvm.Cond.instanceMethod ({ cls := "PactClocksModel", name := "dayOn", desc := "()V" } : Jvm.MethodName)) ∈ lw_all := mt4 188 (by decide +kernel) (by decide +kernel)
theorem q117 : (Cond.selects "PactClocksModel" (⟨"PactClocksModel", "dayOn", "()V"⟩ : MethodName) (⟨"PactClocksModel", "dayOn", "()V"⟩ : MethodName)) ∈ lw_all := mt0 24 (by decide +kernel) (by decide +kernel)
theorem q118 : (Jvm.Cond.methodLink "PactClocksModel" (102 : Nat) ({ cls := "PactClocksModel", name := "dayOn", desc := "()V" } : Jvm.MethodName)) ∈ lw_all := mt4 186 (by decide +kernel) (by decide +kernel)
theorem q119 : (Jvm.Cond.code ({ cls := "PactClocksModel", name := "no", desc := "(I)I" } : Jvm.MethodName) prog_5_method_3_code (2 : Nat) (Option.some Jvm.ClassFile.FieldType.int)) ∈ lw_all := mt4 109 (by decide +kernel) (by decide +kernel)
theorem q120 : (Jvm.Cond.instanceMethod ({ cls := "PactClocksModel", name := "no", desc := "(I)I" } : Jvm.MethodName)) ∈ lw_all := mt4 108 (by decide +kernel) (by decide +kernel)
theorem q121 : (Cond.selects "PactClocksModel" (⟨"PactClocksModel", "no", "(I)I"⟩ : MethodName) (⟨"PactClocksModel", "no", "(I)I"⟩ : MethodName)) ∈ lw_all := mt0 10 (by decide +kernel) (by decide +kernel)
theorem q122 : (Jvm.Cond.methodLink "PactClocksModel" (105 : Nat) ({ cls := "PactClocksModel", name := "no", desc := "(I)I" } : Jvm.MethodName)) ∈ lw_all := mt4 106 (by decide +kernel) (by decide +kernel)
theorem q123 : (Jvm.Cond.code ({ cls := "PactClocksModel", name := "isParty", desc := "(I)Z" } : Jvm.MethodName) prog_5_method_6_code (2 : Nat) (Option.some Jvm.ClassFile.FieldType.boolean)) ∈ lw_all := mt4 117 (by decide +kernel) (by decide +kernel)
theorem q124 : (Jvm.Cond.instanceMethod ({ cls := "PactClocksModel", name := "isParty", desc := "(I)Z" } : Jvm.MethodName)) ∈ lw_all := mt4 116 (by decide +kernel) (by decide +kernel)
theorem q125 : (Cond.selects "PactClocksModel" (⟨"PactClocksModel", "isParty", "(I)Z"⟩ : MethodName) (⟨"PactClocksModel", "isParty", "(I)Z"⟩ : MethodName)) ∈ lw_all := mt0 11 (by decide +kernel) (by decide +kernel)
theorem q126 : (Jvm.Cond.methodLink "PactClocksModel" (108 : Nat) ({ cls := "PactClocksModel", name := "isParty", desc := "(I)Z" } : Jvm.MethodName)) ∈ lw_all := mt4 114 (by decide +kernel) (by decide +kernel)
theorem q127 : (Jvm.Cond.code ({ cls := "PactClocksModel", name := "isDuty", desc := "(I)Z" } : Jvm.MethodName) prog_5_method_7_code (2 : Nat) (Option.some Jvm.ClassFile.FieldType.boolean)) ∈ lw_all := mt4 121 (by decide +kernel) (by decide +kernel)
theorem q128 : (Jvm.Cond.instanceMethod ({ cls := "PactClocksModel", name := "isDuty", desc := "(I)Z" } : Jvm.MethodName)) ∈ lw_all := mt4 120 (by decide +kernel) (by decide +kernel)
theorem q129 : (Cond.selects "PactClocksModel" (⟨"PactClocksModel", "isDuty", "(I)Z"⟩ : MethodName) (⟨"PactClocksModel", "isDuty", "(I)Z"⟩ : MethodName)) ∈ lw_all := mt0 12 (by decide +kernel) (by decide +kernel)
theorem q130 : (Jvm.Cond.methodLink "PactClocksModel" (111 : Nat) ({ cls := "PactClocksModel", name := "isDuty", desc := "(I)Z" } : Jvm.MethodName)) ∈ lw_all := mt4 118 (by decide +kernel) (by decide +kernel)
theorem q131 : (Jvm.Cond.code ({ cls := "PactClocksModel", name := "canPay", desc := "(I)Z" } : Jvm.MethodName) prog_5_method_25_code (2 : Nat) (Option.some Jvm.ClassFile.FieldType.boolean)) ∈ lw_all := mt4 141 (by decide +kernel) (by decide +kernel)
theorem q132 : (Jvm.Cond.instanceMethod ({ cls := "PactClocksModel", name := "canPay", desc := "(I)Z" } : Jvm.MethodName)) ∈ lw_all := mt4 140 (by decide +kernel) (by decide +kernel)
theorem q133 : (Cond.selects "PactClocksModel" (⟨"PactClocksModel", "canPay", "(I)Z"⟩ : MethodName) (⟨"PactClocksModel", "canPay", "(I)Z"⟩ : MethodName)) ∈ lw_all := mt0 16 (by decide +kernel) (by decide +kernel)
theorem q134 : (Jvm.Cond.methodLink "PactClocksModel" (114 : Nat) ({ cls := "PactClocksModel", name := "canPay", desc := "(I)Z" } : Jvm.MethodName)) ∈ lw_all := mt4 138 (by decide +kernel) (by decide +kernel)
theorem q135 : (Jvm.Cond.code ({ cls := "PactClocksModel", name := "paid", desc := "(I)V" } : Jvm.MethodName) prog_5_method_17_code (3 : Nat) (Option.none : Option Jvm.ClassFile.FieldType)) ∈ lw_all := mt4 153 (by decide +kernel) (by decide +kernel)
theorem q136 : (Jvm.Cond.instanceMethod ({ cls := "PactClocksModel", name := "paid", desc := "(I)V" } : Jvm.MethodName)) ∈ lw_all := mt4 152 (by decide +kernel) (by decide +kernel)
theorem q137 : (Cond.selects "PactClocksModel" (⟨"PactClocksModel", "paid", "(I)V"⟩ : MethodName) (⟨"PactClocksModel", "paid", "(I)V"⟩ : MethodName)) ∈ lw_all := mt0 19 (by decide +kernel) (by decide +kernel)
theorem q138 : (Jvm.Cond.methodLink "PactClocksModel" (117 : Nat) ({ cls := "PactClocksModel", name := "paid", desc := "(I)V" } : Jvm.MethodName)) ∈ lw_all := mt4 150 (by decide +kernel) (by decide +kernel)
theorem q139 : (Jvm.Cond.code ({ cls := "PactClocksModel", name := "count", desc := "(I)I" } : Jvm.MethodName) prog_5_method_22_code (4 : Nat) (Option.some Jvm.ClassFile.FieldType.int)) ∈ lw_all := mt4 181 (by decide +kernel) (by decide +kernel)
theorem q140 : (Jvm.Cond.instanceMethod ({ cls := "PactClocksModel", name := "count", desc := "(I)I" } : Jvm.MethodName)) ∈ lw_all := mt4 180 (by decide +kernel) (by decide +kernel)
theorem q141 : (Cond.selects "PactClocksModel" (⟨"PactClocksModel", "count", "(I)I"⟩ : MethodName) (⟨"PactClocksModel", "count", "(I)I"⟩ : MethodName)) ∈ lw_all := mt0 22 (by decide +kernel) (by decide +kernel)
theorem q142 : (Jvm.Cond.methodLink "PactClocksModel" (120 : Nat) ({ cls := "PactClocksModel", name := "count", desc := "(I)I" } : Jvm.MethodName)) ∈ lw_all := mt4 178 (by decide +kernel) (by decide +kernel)
theorem q143 : (Jvm.Cond.code ({ cls := "PactClocksModel", name := "daysOn", desc := "(I)V" } : Jvm.MethodName) prog_5_method_21_code (3 : Nat) (Option.none : Option Jvm.ClassFile.FieldType)) ∈ lw_all := mt4 185 (by decide +kernel) (by decide +kernel)
theorem q144 : (Jvm.Cond.instanceMethod ({ cls := "PactClocksModel", name := "daysOn", desc := "(I)V" } : Jvm.MethodName)) ∈ lw_all := mt4 184 (by decide +kernel) (by decide +kernel)
theorem q145 : (Cond.selects "PactClocksModel" (⟨"PactClocksModel", "daysOn", "(I)V"⟩ : MethodName) (⟨"PactClocksModel", "daysOn", "(I)V"⟩ : MethodName)) ∈ lw_all := mt0 23 (by decide +kernel) (by decide +kernel)
theorem q146 : (Jvm.Cond.methodLink "PactClocksModel" (123 : Nat) ({ cls := "PactClocksModel", name := "daysOn", desc := "(I)V" } : Jvm.MethodName)) ∈ lw_all := mt4 182 (by decide +kernel) (by decide +kernel)
theorem f_X3_44 : zF RX3 "PactClocksModel" 44 7 0 13 RX3 TX3 := ⟨in_X3, rfl, by decide, q61, rfl⟩
theorem f_X3_48 : zF RX3 "PactClocksModel" 48 7 1 13 RX3 TX3 := ⟨in_X3, rfl, by decide, q62, rfl⟩
theorem f_X3_55 : zF RX3 "PactClocksModel" 55 7 2 13 RX3 TX3 := ⟨in_X3, rfl, by decide, q67, rfl⟩
theorem f_X3_31 : zF RX3 "PactClocksModel" 31 7 10 13 RX3 TX3 := ⟨in_X3, rfl, by decide, q68, rfl⟩
theorem f_X3_34 : zF RX3 "PactClocksModel" 34 7 11 13 RX3 TX3 := ⟨in_X3, rfl, by decide, q69, rfl⟩
theorem f_X3_16 : zF RX3 "PactClocksModel" 16 7 5 13 RX3 TX3 := ⟨in_X3, rfl, by decide, q75, rfl⟩
theorem f_X3_25 : zF RX3 "PactClocksModel" 25 7 8 13 RX3 TX3 := ⟨in_X3, rfl, by decide, q76, rfl⟩
theorem f_X3_19 : zF RX3 "PactClocksModel" 19 7 6 13 RX3 TX3 := ⟨in_X3, rfl, by decide, q77, rfl⟩
theorem f_X3_28 : zF RX3 "PactClocksModel" 28 7 9 13 RX3 TX3 := ⟨in_X3, rfl, by decide, q78, rfl⟩
theorem f_X3_9 : zF RX3 "PactClocksModel" 9 7 3 13 RX3 TX3 := ⟨in_X3, rfl, by decide, q83, rfl⟩
theorem f_X3_13 : zF RX3 "PactClocksModel" 13 7 4 13 RX3 TX3 := ⟨in_X3, rfl, by decide, q84, rfl⟩
theorem f_X3_22 : zF RX3 "PactClocksModel" 22 7 7 13 RX3 TX3 := ⟨in_X3, rfl, by decide, q102, rfl⟩
theorem v_X3_isFrom : zSt yX3_isFrom cX3_isFrom 3 (some .boolean) 3 := ⟨q65, q63, q64, by decide +kernel, by decide +kernel, by decide +kernel⟩
theorem v_X3_state : zV yX3_state cX3_state 2 (some .int) 1 := ⟨q72, q73, q63, q71, by decide +kernel, by decide +kernel, by decide +kernel⟩
theorem v_X3_end : zV yX3_end cX3_end 3 none 2 := ⟨q80, q81, q63, q79, by decide +kernel, by decide +kernel, by decide +kernel⟩
theorem v_X3_price : zV yX3_price cX3_price 2 (some .int) 1 := ⟨q86, q87, q63, q85, by decide +kernel, by decide +kernel, by decide +kernel⟩
theorem v_X3_move : zV yX3_move cX3_move 4 none 3 := ⟨q90, q91, q63, q89, by decide +kernel, by decide +kernel, by decide +kernel⟩
theorem v_X3_run : zV yX3_run cX3_run 2 none 1 := ⟨q94, q95, q63, q93, by decide +kernel, by decide +kernel, by decide +kernel⟩
theorem v_X3_releaseBehind : zV yX3_releaseBehind cX3_releaseBehind 5 (some .int) 1 := ⟨q98, q99, q63, q97, by decide +kernel, by decide +kernel, by decide +kernel⟩
theorem v_X3_fail : zV yX3_fail cX3_fail 3 none 1 := ⟨q104, q105, q63, q103, by decide +kernel, by decide +kernel, by decide +kernel⟩
theorem v_X3_isOpen : zV yX3_isOpen cX3_isOpen 2 (some .boolean) 1 := ⟨q108, q109, q63, q107, by decide +kernel, by decide +kernel, by decide +kernel⟩
theorem v_X3_tick : zV yX3_tick cX3_tick 3 none 1 := ⟨q112, q113, q63, q111, by decide +kernel, by decide +kernel, by decide +kernel⟩
theorem v_X3_dayOn : zV yX3_dayOn cX3_dayOn 2 none 0 := ⟨q116, q117, q63, q115, by decide +kernel, by decide +kernel, by decide +kernel⟩
theorem v_X3_no : zV yX3_no cX3_no 2 (some .int) 1 := ⟨q120, q121, q63, q119, by decide +kernel, by decide +kernel, by decide +kernel⟩
theorem v_X3_isParty : zV yX3_isParty cX3_isParty 2 (some .boolean) 1 := ⟨q124, q125, q63, q123, by decide +kernel, by decide +kernel, by decide +kernel⟩
theorem v_X3_isDuty : zV yX3_isDuty cX3_isDuty 2 (some .boolean) 1 := ⟨q128, q129, q63, q127, by decide +kernel, by decide +kernel, by decide +kernel⟩
theorem v_X3_canPay : zV yX3_canPay cX3_canPay 2 (some .boolean) 1 := ⟨q132, q133, q63, q131, by decide +kernel, by decide +kernel, by decide +kernel⟩
theorem v_X3_paid : zV yX3_paid cX3_paid 3 none 1 := ⟨q136, q137, q63, q135, by decide +kernel, by decide +kernel, by decide +kernel⟩
theorem v_X3_count : zV yX3_count cX3_count 4 (some .int) 1 := ⟨q140, q141, q63, q139, by decide +kernel, by decide +kernel, by decide +kernel⟩
theorem v_X3_daysOn : zV yX3_daysOn cX3_daysOn 3 none 1 := ⟨q144, q145, q63, q143, by decide +kernel, by decide +kernel, by decide +kernel⟩
def wpX3_thrown (post : Int32 → Prop) (mo : MS) : Prop := post mo.1
set_option maxHeartbeats 4000000 in
set_option maxRecDepth 100000 in
theorem c_X3_thrown {l : Launch} (hfl : l.stackTraces = false) {s0 : State} (hs0 : zS s0) (D : va_G) (cI cB cJ : ClassId) (mA : Nat → Nat) (mo : MS) {post : Int32 → Prop} (h : wpX3_thrown post mo) : zR s0 l D (zty cI cB cJ) yX3_thrown cX3_thrown 1 (some .int) 1 [.ref (mA 0)] (wM cI mA mo) (fun u : Int32 => some (Value.int u)) (fun u : Int32 => post u) := by
  refine zR_intro (by decide +kernel) (Nat.le_of_ble_eq_true rfl) ?_
  intro p e s m below meth c C hP hG ls hl
  have C : zC D (zty cI cB cJ) p s m ([.ref (mA 0)] : List Value).toArray meth c cX3_thrown RX3 (some .int) 1 := C
  have hx := C.1
  have hb := C.2.1
  have hts := C.2.2.1
  have hown := C.2.2.2.1
  have hml := C.2.2.2.2.2.1
  have hK := C.2.2.2.2.2.2.2
  have hl : lv_has ls 1 [(0, .ref (mA 0))] := hl
  unfold wpX3_thrown at h
  refine lv_aload_n hx hb dX3_thrown_0 rfl (lv_at hl 0 rfl) ?_
  refine z_get C f_X3_44 hP (q0 := 0) rfl rfl dX3_thrown_1 ?_
  exact zR_iret C mo.1 rfl h dX3_thrown_4
def wpX3_no (post : Int32 → MS → Prop) (mo : MS) (p0 : Int32) : Prop := post 0 (p0, mo.2.1, mo.2.2.1, mo.2.2.2.1, mo.2.2.2.2.1, mo.2.2.2.2.2.1, mo.2.2.2.2.2.2.1, mo.2.2.2.2.2.2.2.1, mo.2.2.2.2.2.2.2.2.1, mo.2.2.2.2.2.2.2.2.2.1, mo.2.2.2.2.2.2.2.2.2.2.1, mo.2.2.2.2.2.2.2.2.2.2.2)
set_option maxHeartbeats 4000000 in
set_option maxRecDepth 100000 in
theorem c_X3_no {l : Launch} (hfl : l.stackTraces = false) {s0 : State} (hs0 : zS s0) (D : va_G) (cI cB cJ : ClassId) (mA : Nat → Nat) (mo : MS) (p0 : Int32) {post : Int32 → MS → Prop} (h : wpX3_no post mo p0) : zW s0 l D (zty cI cB cJ) yX3_no cX3_no 2 (some .int) 1 0 0 [.ref (mA 0), .int p0] (wM cI mA mo) (fun u : Int32 × MS => some (Value.int u.1)) (fun u : Int32 × MS => post u.1 u.2) (fun u : Int32 × MS => wM cI mA u.2) := by
  refine zW_intro (by decide +kernel) (Nat.le_of_ble_eq_true rfl) ?_
  intro p e s m below meth c A C hnm hA hG hP hD hS ls hl
  have C : zC D (zty cI cB cJ) p s m ([.ref (mA 0), .int p0] : List Value).toArray meth c cX3_no RX3 (some .int) 2 := C
  have hx := C.1
  have hb := C.2.1
  have hts := C.2.2.1
  have hown := C.2.2.2.1
  have hml := C.2.2.2.2.2.1
  have hK := C.2.2.2.2.2.2.2
  have hl : lv_has ls 2 [(0, .ref (mA 0)), (1, .int p0)] := hl
  have hP : va_P D vwCl (wM cI mA mo) s.heap := hP
  have hD : va_D A (wM cI mA mo) := hD
  unfold wpX3_no at h
  refine lv_aload_n hx hb dX3_no_0 rfl (lv_at hl 0 rfl) ?_
  refine lv_iload_n hx hb dX3_no_1 rfl (lv_at hl 1 rfl) ?_
  refine z_put C f_X3_44 zt_X3 rfl rfl rfl rfl hP hD hS (q0 := 0) rfl (Nat.le_of_ble_eq_true rfl) dX3_no_2 (fun H locs hP hD hS => ?_)
  have hP : va_P D vwCl (wM cI mA (p0, mo.2.1, mo.2.2.1, mo.2.2.2.1, mo.2.2.2.2.1, mo.2.2.2.2.2.1, mo.2.2.2.2.2.2.1, mo.2.2.2.2.2.2.2.1, mo.2.2.2.2.2.2.2.2.1, mo.2.2.2.2.2.2.2.2.2.1, mo.2.2.2.2.2.2.2.2.2.2.1, mo.2.2.2.2.2.2.2.2.2.2.2)) H := hP
  have hD : va_D A (wM cI mA (p0, mo.2.1, mo.2.2.1, mo.2.2.2.1, mo.2.2.2.2.1, mo.2.2.2.2.2.1, mo.2.2.2.2.2.2.1, mo.2.2.2.2.2.2.2.1, mo.2.2.2.2.2.2.2.2.1, mo.2.2.2.2.2.2.2.2.2.1, mo.2.2.2.2.2.2.2.2.2.2.1, mo.2.2.2.2.2.2.2.2.2.2.2)) := hD
  refine lv_iconst (v := 0) hx hb dX3_no_5 (by decide) ?_
  exact zW_iret C (0, (p0, mo.2.1, mo.2.2.1, mo.2.2.2.1, mo.2.2.2.2.1, mo.2.2.2.2.2.1, mo.2.2.2.2.2.2.1, mo.2.2.2.2.2.2.2.1, mo.2.2.2.2.2.2.2.2.1, mo.2.2.2.2.2.2.2.2.2.1, mo.2.2.2.2.2.2.2.2.2.2.1, mo.2.2.2.2.2.2.2.2.2.2.2)) rfl h hP hD hS (Nat.le_of_ble_eq_true rfl) (Nat.le_of_ble_eq_true rfl) dX3_no_6
def wpX3_ok (post : Int32 → MS → Prop) (mo : MS) (p0 : Int32) : Prop := post p0 (0, mo.2.1, mo.2.2.1, mo.2.2.2.1, mo.2.2.2.2.1, mo.2.2.2.2.2.1, mo.2.2.2.2.2.2.1, mo.2.2.2.2.2.2.2.1, mo.2.2.2.2.2.2.2.2.1, mo.2.2.2.2.2.2.2.2.2.1, mo.2.2.2.2.2.2.2.2.2.2.1, mo.2.2.2.2.2.2.2.2.2.2.2)
set_option maxHeartbeats 4000000 in
set_option maxRecDepth 100000 in
theorem c_X3_ok {l : Launch} (hfl : l.stackTraces = false) {s0 : State} (hs0 : zS s0) (D : va_G) (cI cB cJ : ClassId) (mA : Nat → Nat) (mo : MS) (p0 : Int32) {post : Int32 → MS → Prop} (h : wpX3_ok post mo p0) : zW s0 l D (zty cI cB cJ) yX3_ok cX3_ok 2 (some .int) 1 0 0 [.ref (mA 0), .int p0] (wM cI mA mo) (fun u : Int32 × MS => some (Value.int u.1)) (fun u : Int32 × MS => post u.1 u.2) (fun u : Int32 × MS => wM cI mA u.2) := by
  refine zW_intro (by decide +kernel) (Nat.le_of_ble_eq_true rfl) ?_
  intro p e s m below meth c A C hnm hA hG hP hD hS ls hl
  have C : zC D (zty cI cB cJ) p s m ([.ref (mA 0), .int p0] : List Value).toArray meth c cX3_ok RX3 (some .int) 2 := C
  have hx := C.1
  have hb := C.2.1
  have hts := C.2.2.1
  have hown := C.2.2.2.1
  have hml := C.2.2.2.2.2.1
  have hK := C.2.2.2.2.2.2.2
  have hl : lv_has ls 2 [(0, .ref (mA 0)), (1, .int p0)] := hl
  have hP : va_P D vwCl (wM cI mA mo) s.heap := hP
  have hD : va_D A (wM cI mA mo) := hD
  unfold wpX3_ok at h
  refine lv_aload_n hx hb dX3_ok_0 rfl (lv_at hl 0 rfl) ?_
  refine lv_iconst (v := 0) hx hb dX3_ok_1 (by decide) ?_
  refine z_put C f_X3_44 zt_X3 rfl rfl rfl rfl hP hD hS (q0 := 0) rfl (Nat.le_of_ble_eq_true rfl) dX3_ok_2 (fun H locs hP hD hS => ?_)
  have hP : va_P D vwCl (wM cI mA (0, mo.2.1, mo.2.2.1, mo.2.2.2.1, mo.2.2.2.2.1, mo.2.2.2.2.2.1, mo.2.2.2.2.2.2.1, mo.2.2.2.2.2.2.2.1, mo.2.2.2.2.2.2.2.2.1, mo.2.2.2.2.2.2.2.2.2.1, mo.2.2.2.2.2.2.2.2.2.2.1, mo.2.2.2.2.2.2.2.2.2.2.2)) H := hP
  have hD : va_D A (wM cI mA (0, mo.2.1, mo.2.2.1, mo.2.2.2.1, mo.2.2.2.2.1, mo.2.2.2.2.2.1, mo.2.2.2.2.2.2.1, mo.2.2.2.2.2.2.2.1, mo.2.2.2.2.2.2.2.2.1, mo.2.2.2.2.2.2.2.2.2.1, mo.2.2.2.2.2.2.2.2.2.2.1, mo.2.2.2.2.2.2.2.2.2.2.2)) := hD
  refine lv_iload_n hx hb dX3_ok_5 rfl (lv_at hl 1 rfl) ?_
  exact zW_iret C (p0, (0, mo.2.1, mo.2.2.1, mo.2.2.2.1, mo.2.2.2.2.1, mo.2.2.2.2.2.1, mo.2.2.2.2.2.2.1, mo.2.2.2.2.2.2.2.1, mo.2.2.2.2.2.2.2.2.1, mo.2.2.2.2.2.2.2.2.2.1, mo.2.2.2.2.2.2.2.2.2.2.1, mo.2.2.2.2.2.2.2.2.2.2.2)) rfl h hP hD hS (Nat.le_of_ble_eq_true rfl) (Nat.le_of_ble_eq_true rfl) dX3_ok_6
def wpX3_isFrom (post : Int32 → Prop) (p0 : Int32) (p1 : Int32) (p2 : Int32) : Prop := (p0 < p1 → post 0) ∧ (¬ p0 < p1 → (p2 < p0 → post 0) ∧ (¬ p2 < p0 → post 1))
set_option maxHeartbeats 4000000 in
set_option maxRecDepth 100000 in
theorem c_X3_isFrom {l : Launch} (hfl : l.stackTraces = false) {s0 : State} (hs0 : zS s0) (D : va_G) (cI cB cJ : ClassId) (p0 : Int32) (p1 : Int32) (p2 : Int32) {post : Int32 → Prop} (h : wpX3_isFrom post p0 p1 p2) : zR s0 l D (zty cI cB cJ) yX3_isFrom cX3_isFrom 3 (some .boolean) 1 [.int p0, .int p1, .int p2] ([]) (fun u : Int32 => some (Value.int u)) (fun u : Int32 => post u) := by
  refine zR_intro (by decide +kernel) (Nat.le_of_ble_eq_true rfl) ?_
  intro p e s m below meth c C hP hG ls hl
  have C : zC D (zty cI cB cJ) p s m ([.int p0, .int p1, .int p2] : List Value).toArray meth c cX3_isFrom RX3 (some .boolean) 3 := C
  have hx := C.1
  have hb := C.2.1
  have hts := C.2.2.1
  have hown := C.2.2.2.1
  have hml := C.2.2.2.2.2.1
  have hK := C.2.2.2.2.2.2.2
  have hl : lv_has ls 3 [(0, .int p0), (1, .int p1), (2, .int p2)] := hl
  unfold wpX3_isFrom at h
  refine lv_iload_n hx hb dX3_isFrom_0 rfl (lv_at hl 0 rfl) ?_
  refine lv_iload_n hx hb dX3_isFrom_1 rfl (lv_at hl 1 rfl) ?_
  refine lv_icmp_lt (tgt := 14) hx hb dX3_isFrom_2 (by decide) (fun c2 => ?_) (fun c2 => ?_)
  · have h := h.1 c2
    refine lv_iconst (v := 0) hx hb dX3_isFrom_14 (by decide) ?_
    exact zR_zret C rfl 0 rfl h dX3_isFrom_15
  · have h := h.2 c2
    refine lv_iload_n hx hb dX3_isFrom_5 rfl (lv_at hl 0 rfl) ?_
    refine lv_iload_n hx hb dX3_isFrom_6 rfl (lv_at hl 2 rfl) ?_
    refine lv_icmp_gt (tgt := 14) hx hb dX3_isFrom_7 (by decide) (fun c7 => ?_) (fun c7 => ?_)
    · have h := h.1 c7
      refine lv_iconst (v := 0) hx hb dX3_isFrom_14 (by decide) ?_
      exact zR_zret C rfl 0 rfl h dX3_isFrom_15
    · have h := h.2 c7
      refine lv_iconst (v := 1) hx hb dX3_isFrom_10 (by decide) ?_
      refine lv_goto (tgt := 15) hx hb dX3_isFrom_11 (by decide) ?_
      exact zR_zret C rfl 1 rfl h dX3_isFrom_15
def wpX3_isParty (post : Int32 → Prop) (mo : MS) (p0 : Int32) : Prop := wpX3_isFrom (fun r8 => narrow .boolean (.int r8) = .int r8 ∧ post r8) p0 0 (mo.2.1 - 1)
set_option maxHeartbeats 4000000 in
set_option maxRecDepth 100000 in
theorem c_X3_isParty {l : Launch} (hfl : l.stackTraces = false) {s0 : State} (hs0 : zS s0) (D : va_G) (cI cB cJ : ClassId) (mA : Nat → Nat) (mo : MS) (p0 : Int32) {post : Int32 → Prop} (h : wpX3_isParty post mo p0) : zR s0 l D (zty cI cB cJ) yX3_isParty cX3_isParty 2 (some .boolean) 2 [.ref (mA 0), .int p0] (wM cI mA mo) (fun u : Int32 => some (Value.int u)) (fun u : Int32 => post u) := by
  refine zR_intro (by decide +kernel) (Nat.le_of_ble_eq_true rfl) ?_
  intro p e s m below meth c C hP hG ls hl
  have C : zC D (zty cI cB cJ) p s m ([.ref (mA 0), .int p0] : List Value).toArray meth c cX3_isParty RX3 (some .boolean) 2 := C
  have hx := C.1
  have hb := C.2.1
  have hts := C.2.2.1
  have hown := C.2.2.2.1
  have hml := C.2.2.2.2.2.1
  have hK := C.2.2.2.2.2.2.2
  have hl : lv_has ls 2 [(0, .ref (mA 0)), (1, .int p0)] := hl
  unfold wpX3_isParty at h
  refine lv_iload_n hx hb dX3_isParty_0 rfl (lv_at hl 1 rfl) ?_
  refine lv_iconst (v := 0) hx hb dX3_isParty_1 (by decide) ?_
  refine lv_aload_n hx hb dX3_isParty_2 rfl (lv_at hl 0 rfl) ?_
  refine z_get C f_X3_48 hP (q0 := 0) rfl rfl dX3_isParty_3 ?_
  refine lv_iconst (v := 1) hx hb dX3_isParty_6 (by decide) ?_
  refine lv_isub hx hb dX3_isParty_7 ?_
  refine z_RS (As := [.int p0, .int 0, .int (mo.2.1 - 1)]) (rest := []) [] C hG hP (c_X3_isFrom hfl hs0 D cI cB cJ p0 0 (mo.2.1 - 1) h) q66 v_X3_isFrom rfl rfl ⟨(Nat.le_of_ble_eq_true rfl), (Nat.le_of_ble_eq_true rfl)⟩ ⟨(Nat.le_of_ble_eq_true rfl), (Nat.le_of_ble_eq_true rfl)⟩ hl.1 rfl (lv_room (Nat.le_of_ble_eq_true rfl)) dX3_isParty_8 (fun r8 h => ?_)
  obtain ⟨g9, h⟩ := h
  exact zR_zret C g9 r8 rfl h dX3_isParty_11
def wpX3_isDuty (post : Int32 → Prop) (mo : MS) (p0 : Int32) : Prop := wpX3_isFrom (fun r8 => narrow .boolean (.int r8) = .int r8 ∧ post r8) p0 0 (mo.2.2.1 - 1)
set_option maxHeartbeats 4000000 in
set_option maxRecDepth 100000 in
theorem c_X3_isDuty {l : Launch} (hfl : l.stackTraces = false) {s0 : State} (hs0 : zS s0) (D : va_G) (cI cB cJ : ClassId) (mA : Nat → Nat) (mo : MS) (p0 : Int32) {post : Int32 → Prop} (h : wpX3_isDuty post mo p0) : zR s0 l D (zty cI cB cJ) yX3_isDuty cX3_isDuty 2 (some .boolean) 2 [.ref (mA 0), .int p0] (wM cI mA mo) (fun u : Int32 => some (Value.int u)) (fun u : Int32 => post u) := by
  refine zR_intro (by decide +kernel) (Nat.le_of_ble_eq_true rfl) ?_
  intro p e s m below meth c C hP hG ls hl
  have C : zC D (zty cI cB cJ) p s m ([.ref (mA 0), .int p0] : List Value).toArray meth c cX3_isDuty RX3 (some .boolean) 2 := C
  have hx := C.1
  have hb := C.2.1
  have hts := C.2.2.1
  have hown := C.2.2.2.1
  have hml := C.2.2.2.2.2.1
  have hK := C.2.2.2.2.2.2.2
  have hl : lv_has ls 2 [(0, .ref (mA 0)), (1, .int p0)] := hl
  unfold wpX3_isDuty at h
  refine lv_iload_n hx hb dX3_isDuty_0 rfl (lv_at hl 1 rfl) ?_
  refine lv_iconst (v := 0) hx hb dX3_isDuty_1 (by decide) ?_
  refine lv_aload_n hx hb dX3_isDuty_2 rfl (lv_at hl 0 rfl) ?_
  refine z_get C f_X3_55 hP (q0 := 0) rfl rfl dX3_isDuty_3 ?_
  refine lv_iconst (v := 1) hx hb dX3_isDuty_6 (by decide) ?_
  refine lv_isub hx hb dX3_isDuty_7 ?_
  refine z_RS (As := [.int p0, .int 0, .int (mo.2.2.1 - 1)]) (rest := []) [] C hG hP (c_X3_isFrom hfl hs0 D cI cB cJ p0 0 (mo.2.2.1 - 1) h) q66 v_X3_isFrom rfl rfl ⟨(Nat.le_of_ble_eq_true rfl), (Nat.le_of_ble_eq_true rfl)⟩ ⟨(Nat.le_of_ble_eq_true rfl), (Nat.le_of_ble_eq_true rfl)⟩ hl.1 rfl (lv_room (Nat.le_of_ble_eq_true rfl)) dX3_isDuty_8 (fun r8 h => ?_)
  obtain ⟨g9, h⟩ := h
  exact zR_zret C g9 r8 rfl h dX3_isDuty_11
def wpX3_keep (post : MS → Prop) (mo : MS) : Prop := post (mo.1, mo.2.1, mo.2.2.1, mo.2.2.2.1, mo.2.2.2.2.1, mo.2.2.2.2.2.1, mo.2.2.2.2.2.2.1, mo.2.2.2.2.2.2.2.1, mo.2.2.2.2.2.2.2.2.1, mo.2.2.2.2.2.2.2.2.2.1, mo.2.2.2.2.2.2.2.2.2.2.1, mo.2.2.2.2.2.2.2.2.2.2.1)
set_option maxHeartbeats 4000000 in
set_option maxRecDepth 100000 in
theorem c_X3_keep {l : Launch} (hfl : l.stackTraces = false) {s0 : State} (hs0 : zS s0) (D : va_G) (cI cB cJ : ClassId) (mA : Nat → Nat) (mo : MS) {post : MS → Prop} (h : wpX3_keep post mo) : zW s0 l D (zty cI cB cJ) yX3_keep cX3_keep 1 none 3 0 0 [.ref (mA 0)] (wM cI mA mo) (fun _ : MS => none) (fun u : MS => post u) (fun u : MS => wM cI mA u) := by
  refine zW_intro (by decide +kernel) (Nat.le_of_ble_eq_true rfl) ?_
  intro p e s m below meth c A C hnm hA hG hP hD hS ls hl
  have C : zC D (zty cI cB cJ) p s m ([.ref (mA 0)] : List Value).toArray meth c cX3_keep RX3 none 1 := C
  have hx := C.1
  have hb := C.2.1
  have hts := C.2.2.1
  have hown := C.2.2.2.1
  have hml := C.2.2.2.2.2.1
  have hK := C.2.2.2.2.2.2.2
  have hl : lv_has ls 1 [(0, .ref (mA 0))] := hl
  have hP : va_P D vwCl (wM cI mA mo) s.heap := hP
  have hD : va_D A (wM cI mA mo) := hD
  unfold wpX3_keep at h
  refine lv_aload_n hx hb dX3_keep_0 rfl (lv_at hl 0 rfl) ?_
  refine z_get C f_X3_31 hP (q0 := 0) rfl rfl dX3_keep_1 ?_
  refine lv_iconst (v := 0) hx hb dX3_keep_4 (by decide) ?_
  refine lv_aload_n hx hb dX3_keep_5 rfl (lv_at hl 0 rfl) ?_
  refine z_get C f_X3_34 hP (q0 := 0) rfl rfl dX3_keep_6 ?_
  refine lv_iconst (v := 0) hx hb dX3_keep_9 (by decide) ?_
  refine lv_bipush (v := 68) hx hb dX3_keep_10 (by decide) ?_
  refine z_copy C q70 q56 q57 q58 hP hD hS 8 9 rfl rfl hl.1 (by decide) (by decide) (Nat.le_of_ble_eq_true rfl) (Nat.le_of_ble_eq_true rfl) dX3_keep_12 (fun H locs hP hD hS => ?_)
  have hP : va_P D vwCl (wM cI mA (mo.1, mo.2.1, mo.2.2.1, mo.2.2.2.1, mo.2.2.2.2.1, mo.2.2.2.2.2.1, mo.2.2.2.2.2.2.1, mo.2.2.2.2.2.2.2.1, mo.2.2.2.2.2.2.2.2.1, mo.2.2.2.2.2.2.2.2.2.1, mo.2.2.2.2.2.2.2.2.2.2.1, mo.2.2.2.2.2.2.2.2.2.2.1)) H := hP
  have hD : va_D A (wM cI mA (mo.1, mo.2.1, mo.2.2.1, mo.2.2.2.1, mo.2.2.2.2.1, mo.2.2.2.2.2.1, mo.2.2.2.2.2.2.1, mo.2.2.2.2.2.2.2.1, mo.2.2.2.2.2.2.2.2.1, mo.2.2.2.2.2.2.2.2.2.1, mo.2.2.2.2.2.2.2.2.2.2.1, mo.2.2.2.2.2.2.2.2.2.2.1)) := hD
  exact zW_vret C (mo.1, mo.2.1, mo.2.2.1, mo.2.2.2.1, mo.2.2.2.2.1, mo.2.2.2.2.2.1, mo.2.2.2.2.2.2.1, mo.2.2.2.2.2.2.2.1, mo.2.2.2.2.2.2.2.2.1, mo.2.2.2.2.2.2.2.2.2.1, mo.2.2.2.2.2.2.2.2.2.2.1, mo.2.2.2.2.2.2.2.2.2.2.1) rfl h hP hD hS (Nat.le_of_ble_eq_true rfl) (Nat.le_of_ble_eq_true rfl) dX3_keep_15
def wpX3_bringBack (post : MS → Prop) (mo : MS) : Prop := post (mo.1, mo.2.1, mo.2.2.1, mo.2.2.2.1, mo.2.2.2.2.1, mo.2.2.2.2.2.1, mo.2.2.2.2.2.2.1, mo.2.2.2.2.2.2.2.1, mo.2.2.2.2.2.2.2.2.1, mo.2.2.2.2.2.2.2.2.2.1, mo.2.2.2.2.2.2.2.2.2.2.2, mo.2.2.2.2.2.2.2.2.2.2.2)
set_option maxHeartbeats 4000000 in
set_option maxRecDepth 100000 in
theorem c_X3_bringBack {l : Launch} (hfl : l.stackTraces = false) {s0 : State} (hs0 : zS s0) (D : va_G) (cI cB cJ : ClassId) (mA : Nat → Nat) (mo : MS) {post : MS → Prop} (h : wpX3_bringBack post mo) : zW s0 l D (zty cI cB cJ) yX3_bringBack cX3_bringBack 1 none 3 0 0 [.ref (mA 0)] (wM cI mA mo) (fun _ : MS => none) (fun u : MS => post u) (fun u : MS => wM cI mA u) := by
  refine zW_intro (by decide +kernel) (Nat.le_of_ble_eq_true rfl) ?_
  intro p e s m below meth c A C hnm hA hG hP hD hS ls hl
  have C : zC D (zty cI cB cJ) p s m ([.ref (mA 0)] : List Value).toArray meth c cX3_bringBack RX3 none 1 := C
  have hx := C.1
  have hb := C.2.1
  have hts := C.2.2.1
  have hown := C.2.2.2.1
  have hml := C.2.2.2.2.2.1
  have hK := C.2.2.2.2.2.2.2
  have hl : lv_has ls 1 [(0, .ref (mA 0))] := hl
  have hP : va_P D vwCl (wM cI mA mo) s.heap := hP
  have hD : va_D A (wM cI mA mo) := hD
  unfold wpX3_bringBack at h
  refine lv_aload_n hx hb dX3_bringBack_0 rfl (lv_at hl 0 rfl) ?_
  refine z_get C f_X3_34 hP (q0 := 0) rfl rfl dX3_bringBack_1 ?_
  refine lv_iconst (v := 0) hx hb dX3_bringBack_4 (by decide) ?_
  refine lv_aload_n hx hb dX3_bringBack_5 rfl (lv_at hl 0 rfl) ?_
  refine z_get C f_X3_31 hP (q0 := 0) rfl rfl dX3_bringBack_6 ?_
  refine lv_iconst (v := 0) hx hb dX3_bringBack_9 (by decide) ?_
  refine lv_bipush (v := 68) hx hb dX3_bringBack_10 (by decide) ?_
  refine z_copy C q70 q56 q57 q58 hP hD hS 9 8 rfl rfl hl.1 (by decide) (by decide) (Nat.le_of_ble_eq_true rfl) (Nat.le_of_ble_eq_true rfl) dX3_bringBack_12 (fun H locs hP hD hS => ?_)
  have hP : va_P D vwCl (wM cI mA (mo.1, mo.2.1, mo.2.2.1, mo.2.2.2.1, mo.2.2.2.2.1, mo.2.2.2.2.2.1, mo.2.2.2.2.2.2.1, mo.2.2.2.2.2.2.2.1, mo.2.2.2.2.2.2.2.2.1, mo.2.2.2.2.2.2.2.2.2.1, mo.2.2.2.2.2.2.2.2.2.2.2, mo.2.2.2.2.2.2.2.2.2.2.2)) H := hP
  have hD : va_D A (wM cI mA (mo.1, mo.2.1, mo.2.2.1, mo.2.2.2.1, mo.2.2.2.2.1, mo.2.2.2.2.2.1, mo.2.2.2.2.2.2.1, mo.2.2.2.2.2.2.2.1, mo.2.2.2.2.2.2.2.2.1, mo.2.2.2.2.2.2.2.2.2.1, mo.2.2.2.2.2.2.2.2.2.2.2, mo.2.2.2.2.2.2.2.2.2.2.2)) := hD
  exact zW_vret C (mo.1, mo.2.1, mo.2.2.1, mo.2.2.2.1, mo.2.2.2.2.1, mo.2.2.2.2.2.1, mo.2.2.2.2.2.2.1, mo.2.2.2.2.2.2.2.1, mo.2.2.2.2.2.2.2.2.1, mo.2.2.2.2.2.2.2.2.2.1, mo.2.2.2.2.2.2.2.2.2.2.2, mo.2.2.2.2.2.2.2.2.2.2.2) rfl h hP hD hS (Nat.le_of_ble_eq_true rfl) (Nat.le_of_ble_eq_true rfl) dX3_bringBack_15
def wpX3_state (post : Int32 → Prop) (mo : MS) (p0 : Int32) : Prop := vp_in (8 + p0) 68 ∧ (post (mo.2.2.2.2.2.2.2.2.2.2.1 (8 + p0).toNatClampNeg))
set_option maxHeartbeats 4000000 in
set_option maxRecDepth 100000 in
theorem c_X3_state {l : Launch} (hfl : l.stackTraces = false) {s0 : State} (hs0 : zS s0) (D : va_G) (cI cB cJ : ClassId) (mA : Nat → Nat) (mo : MS) (p0 : Int32) {post : Int32 → Prop} (h : wpX3_state post mo p0) : zR s0 l D (zty cI cB cJ) yX3_state cX3_state 2 (some .int) 1 [.ref (mA 0), .int p0] (wM cI mA mo) (fun u : Int32 => some (Value.int u)) (fun u : Int32 => post u) := by
  refine zR_intro (by decide +kernel) (Nat.le_of_ble_eq_true rfl) ?_
  intro p e s m below meth c C hP hG ls hl
  have C : zC D (zty cI cB cJ) p s m ([.ref (mA 0), .int p0] : List Value).toArray meth c cX3_state RX3 (some .int) 2 := C
  have hx := C.1
  have hb := C.2.1
  have hts := C.2.2.1
  have hown := C.2.2.2.1
  have hml := C.2.2.2.2.2.1
  have hK := C.2.2.2.2.2.2.2
  have hl : lv_has ls 2 [(0, .ref (mA 0)), (1, .int p0)] := hl
  unfold wpX3_state at h
  refine lv_aload_n hx hb dX3_state_0 rfl (lv_at hl 0 rfl) ?_
  refine z_get C f_X3_31 hP (q0 := 0) rfl rfl dX3_state_1 ?_
  refine lv_bipush (v := 8) hx hb dX3_state_4 (by decide) ?_
  refine lv_iload_n hx hb dX3_state_6 rfl (lv_at hl 1 rfl) ?_
  refine lv_iadd hx hb dX3_state_7 ?_
  obtain ⟨g9, h⟩ := h
  refine va_iald hx hb hK hP 8 0 rfl rfl g9 dX3_state_8 ?_
  exact zR_iret C (mo.2.2.2.2.2.2.2.2.2.2.1 (8 + p0).toNatClampNeg) rfl h dX3_state_9
def wpX3_isOpen (post : Int32 → Prop) (mo : MS) (p0 : Int32) : Prop := wpX3_state (fun r2 => (r2 = 1 → post 1) ∧ (¬ r2 = 1 → wpX3_state (fun r11 => (r11 = 2 → post 1) ∧ (¬ r11 = 2 → post 0)) mo p0)) mo p0
set_option maxHeartbeats 4000000 in
set_option maxRecDepth 100000 in
theorem c_X3_isOpen {l : Launch} (hfl : l.stackTraces = false) {s0 : State} (hs0 : zS s0) (D : va_G) (cI cB cJ : ClassId) (mA : Nat → Nat) (mo : MS) (p0 : Int32) {post : Int32 → Prop} (h : wpX3_isOpen post mo p0) : zR s0 l D (zty cI cB cJ) yX3_isOpen cX3_isOpen 2 (some .boolean) 2 [.ref (mA 0), .int p0] (wM cI mA mo) (fun u : Int32 => some (Value.int u)) (fun u : Int32 => post u) := by
  refine zR_intro (by decide +kernel) (Nat.le_of_ble_eq_true rfl) ?_
  intro p e s m below meth c C hP hG ls hl
  have C : zC D (zty cI cB cJ) p s m ([.ref (mA 0), .int p0] : List Value).toArray meth c cX3_isOpen RX3 (some .boolean) 2 := C
  have hx := C.1
  have hb := C.2.1
  have hts := C.2.2.1
  have hown := C.2.2.2.1
  have hml := C.2.2.2.2.2.1
  have hK := C.2.2.2.2.2.2.2
  have hl : lv_has ls 2 [(0, .ref (mA 0)), (1, .int p0)] := hl
  unfold wpX3_isOpen at h
  refine lv_aload_n hx hb dX3_isOpen_0 rfl (lv_at hl 0 rfl) ?_
  refine lv_iload_n hx hb dX3_isOpen_1 rfl (lv_at hl 1 rfl) ?_
  refine z_RV (As := [.int p0]) (rest := []) [0, 1, 2, 3, 4, 5, 6, 7, 8, 9] C hG hP (c_X3_state hfl hs0 D cI cB cJ mA mo p0 h) q74 v_X3_state rfl rfl rfl rfl ⟨(Nat.le_of_ble_eq_true rfl), (Nat.le_of_ble_eq_true rfl)⟩ ⟨(Nat.le_of_ble_eq_true rfl), (Nat.le_of_ble_eq_true rfl)⟩ hl.1 rfl (lv_room (Nat.le_of_ble_eq_true rfl)) dX3_isOpen_2 (fun r2 h => ?_)
  refine lv_iconst (v := 1) hx hb dX3_isOpen_5 (by decide) ?_
  refine lv_icmp_eq (tgt := 18) hx hb dX3_isOpen_6 (by decide) (fun c6 => ?_) (fun c6 => ?_)
  · have h := h.1 c6
    refine lv_iconst (v := 1) hx hb dX3_isOpen_18 (by decide) ?_
    refine lv_goto (tgt := 23) hx hb dX3_isOpen_19 (by decide) ?_
    exact zR_zret C rfl 1 rfl h dX3_isOpen_23
  · have h := h.2 c6
    refine lv_aload_n hx hb dX3_isOpen_9 rfl (lv_at hl 0 rfl) ?_
    refine lv_iload_n hx hb dX3_isOpen_10 rfl (lv_at hl 1 rfl) ?_
    refine z_RV (As := [.int p0]) (rest := []) [0, 1, 2, 3, 4, 5, 6, 7, 8, 9] C hG hP (c_X3_state hfl hs0 D cI cB cJ mA mo p0 h) q74 v_X3_state rfl rfl rfl rfl ⟨(Nat.le_of_ble_eq_true rfl), (Nat.le_of_ble_eq_true rfl)⟩ ⟨(Nat.le_of_ble_eq_true rfl), (Nat.le_of_ble_eq_true rfl)⟩ hl.1 rfl (lv_room (Nat.le_of_ble_eq_true rfl)) dX3_isOpen_11 (fun r11 h => ?_)
    refine lv_iconst (v := 2) hx hb dX3_isOpen_14 (by decide) ?_
    refine lv_icmp_ne (tgt := 22) hx hb dX3_isOpen_15 (by decide) (fun c15 => ?_) (fun c15 => ?_)
    · have h := h.2 c15
      refine lv_iconst (v := 0) hx hb dX3_isOpen_22 (by decide) ?_
      exact zR_zret C rfl 0 rfl h dX3_isOpen_23
    · have h := h.1 c15
      refine lv_iconst (v := 1) hx hb dX3_isOpen_18 (by decide) ?_
      refine lv_goto (tgt := 23) hx hb dX3_isOpen_19 (by decide) ?_
      exact zR_zret C rfl 1 rfl h dX3_isOpen_23
def wpX3_price (post : Int32 → Prop) (mo : MS) (p0 : Int32) : Prop := wpX3_state (fun r2 => (r2 = 1 → vp_in p0 20 ∧ (post (mo.2.2.2.2.2.1 p0.toNatClampNeg))) ∧ (¬ r2 = 1 → wpX3_state (fun r20 => (r20 = 2 → vp_in p0 20 ∧ (vp_in p0 20 ∧ (post ((mo.2.2.2.2.2.1 p0.toNatClampNeg) + ((mo.2.2.2.2.2.2.2.2.1 p0.toNatClampNeg) / 2))))) ∧ (¬ r20 = 2 → post 0)) mo p0)) mo p0
set_option maxHeartbeats 4000000 in
set_option maxRecDepth 100000 in
theorem c_X3_price {l : Launch} (hfl : l.stackTraces = false) {s0 : State} (hs0 : zS s0) (D : va_G) (cI cB cJ : ClassId) (mA : Nat → Nat) (mo : MS) (p0 : Int32) {post : Int32 → Prop} (h : wpX3_price post mo p0) : zR s0 l D (zty cI cB cJ) yX3_price cX3_price 2 (some .int) 2 [.ref (mA 0), .int p0] (wM cI mA mo) (fun u : Int32 => some (Value.int u)) (fun u : Int32 => post u) := by
  refine zR_intro (by decide +kernel) (Nat.le_of_ble_eq_true rfl) ?_
  intro p e s m below meth c C hP hG ls hl
  have C : zC D (zty cI cB cJ) p s m ([.ref (mA 0), .int p0] : List Value).toArray meth c cX3_price RX3 (some .int) 2 := C
  have hx := C.1
  have hb := C.2.1
  have hts := C.2.2.1
  have hown := C.2.2.2.1
  have hml := C.2.2.2.2.2.1
  have hK := C.2.2.2.2.2.2.2
  have hl : lv_has ls 2 [(0, .ref (mA 0)), (1, .int p0)] := hl
  unfold wpX3_price at h
  refine lv_aload_n hx hb dX3_price_0 rfl (lv_at hl 0 rfl) ?_
  refine lv_iload_n hx hb dX3_price_1 rfl (lv_at hl 1 rfl) ?_
  refine z_RV (As := [.int p0]) (rest := []) [0, 1, 2, 3, 4, 5, 6, 7, 8, 9] C hG hP (c_X3_state hfl hs0 D cI cB cJ mA mo p0 h) q74 v_X3_state rfl rfl rfl rfl ⟨(Nat.le_of_ble_eq_true rfl), (Nat.le_of_ble_eq_true rfl)⟩ ⟨(Nat.le_of_ble_eq_true rfl), (Nat.le_of_ble_eq_true rfl)⟩ hl.1 rfl (lv_room (Nat.le_of_ble_eq_true rfl)) dX3_price_2 (fun r2 h => ?_)
  refine lv_iconst (v := 1) hx hb dX3_price_5 (by decide) ?_
  refine lv_icmp_ne (tgt := 18) hx hb dX3_price_6 (by decide) (fun c6 => ?_) (fun c6 => ?_)
  · have h := h.2 c6
    refine lv_aload_n hx hb dX3_price_18 rfl (lv_at hl 0 rfl) ?_
    refine lv_iload_n hx hb dX3_price_19 rfl (lv_at hl 1 rfl) ?_
    refine z_RV (As := [.int p0]) (rest := []) [0, 1, 2, 3, 4, 5, 6, 7, 8, 9] C hG hP (c_X3_state hfl hs0 D cI cB cJ mA mo p0 h) q74 v_X3_state rfl rfl rfl rfl ⟨(Nat.le_of_ble_eq_true rfl), (Nat.le_of_ble_eq_true rfl)⟩ ⟨(Nat.le_of_ble_eq_true rfl), (Nat.le_of_ble_eq_true rfl)⟩ hl.1 rfl (lv_room (Nat.le_of_ble_eq_true rfl)) dX3_price_20 (fun r20 h => ?_)
    refine lv_iconst (v := 2) hx hb dX3_price_23 (by decide) ?_
    refine lv_icmp_ne (tgt := 45) hx hb dX3_price_24 (by decide) (fun c24 => ?_) (fun c24 => ?_)
    · have h := h.2 c24
      refine lv_iconst (v := 0) hx hb dX3_price_45 (by decide) ?_
      exact zR_iret C 0 rfl h dX3_price_46
    · have h := h.1 c24
      refine lv_aload_n hx hb dX3_price_27 rfl (lv_at hl 0 rfl) ?_
      refine z_get C f_X3_16 hP (q0 := 0) rfl rfl dX3_price_28 ?_
      refine lv_iload_n hx hb dX3_price_31 rfl (lv_at hl 1 rfl) ?_
      obtain ⟨g9, h⟩ := h
      refine va_iald hx hb hK hP 3 0 rfl rfl g9 dX3_price_32 ?_
      refine lv_aload_n hx hb dX3_price_33 rfl (lv_at hl 0 rfl) ?_
      refine z_get C f_X3_25 hP (q0 := 0) rfl rfl dX3_price_34 ?_
      refine lv_iload_n hx hb dX3_price_37 rfl (lv_at hl 1 rfl) ?_
      obtain ⟨g9, h⟩ := h
      refine va_iald hx hb hK hP 6 0 rfl rfl g9 dX3_price_38 ?_
      refine lv_iconst (v := 2) hx hb dX3_price_39 (by decide) ?_
      refine lv_idiv hx hb dX3_price_40 (by decide) ?_
      refine lv_iadd hx hb dX3_price_41 ?_
      refine lv_goto (tgt := 46) hx hb dX3_price_42 (by decide) ?_
      exact zR_iret C ((mo.2.2.2.2.2.1 p0.toNatClampNeg) + ((mo.2.2.2.2.2.2.2.2.1 p0.toNatClampNeg) / 2)) rfl h dX3_price_46
  · have h := h.1 c6
    refine lv_aload_n hx hb dX3_price_9 rfl (lv_at hl 0 rfl) ?_
    refine z_get C f_X3_16 hP (q0 := 0) rfl rfl dX3_price_10 ?_
    refine lv_iload_n hx hb dX3_price_13 rfl (lv_at hl 1 rfl) ?_
    obtain ⟨g9, h⟩ := h
    refine va_iald hx hb hK hP 3 0 rfl rfl g9 dX3_price_14 ?_
    refine lv_goto (tgt := 46) hx hb dX3_price_15 (by decide) ?_
    exact zR_iret C (mo.2.2.2.2.2.1 p0.toNatClampNeg) rfl h dX3_price_46
def wpX3_run (post : MS → Prop) (mo : MS) (p0 : Int32) : Prop := vp_in (8 + p0) 68 ∧ (vp_in p0 20 ∧ (vp_in (28 + p0) 68 ∧ (vp_in (48 + p0) 68 ∧ (post (mo.1, mo.2.1, mo.2.2.1, mo.2.2.2.1, mo.2.2.2.2.1, mo.2.2.2.2.2.1, mo.2.2.2.2.2.2.1, mo.2.2.2.2.2.2.2.1, mo.2.2.2.2.2.2.2.2.1, mo.2.2.2.2.2.2.2.2.2.1, (upd (upd (upd mo.2.2.2.2.2.2.2.2.2.2.1 (8 + p0).toNatClampNeg 1) (28 + p0).toNatClampNeg (mo.2.2.2.2.2.2.1 p0.toNatClampNeg)) (48 + p0).toNatClampNeg 0), mo.2.2.2.2.2.2.2.2.2.2.2)))))
set_option maxHeartbeats 4000000 in
set_option maxRecDepth 100000 in
theorem c_X3_run {l : Launch} (hfl : l.stackTraces = false) {s0 : State} (hs0 : zS s0) (D : va_G) (cI cB cJ : ClassId) (mA : Nat → Nat) (mo : MS) (p0 : Int32) {post : MS → Prop} (h : wpX3_run post mo p0) : zW s0 l D (zty cI cB cJ) yX3_run cX3_run 2 none 1 0 0 [.ref (mA 0), .int p0] (wM cI mA mo) (fun _ : MS => none) (fun u : MS => post u) (fun u : MS => wM cI mA u) := by
  refine zW_intro (by decide +kernel) (Nat.le_of_ble_eq_true rfl) ?_
  intro p e s m below meth c A C hnm hA hG hP hD hS ls hl
  have C : zC D (zty cI cB cJ) p s m ([.ref (mA 0), .int p0] : List Value).toArray meth c cX3_run RX3 none 2 := C
  have hx := C.1
  have hb := C.2.1
  have hts := C.2.2.1
  have hown := C.2.2.2.1
  have hml := C.2.2.2.2.2.1
  have hK := C.2.2.2.2.2.2.2
  have hl : lv_has ls 2 [(0, .ref (mA 0)), (1, .int p0)] := hl
  have hP : va_P D vwCl (wM cI mA mo) s.heap := hP
  have hD : va_D A (wM cI mA mo) := hD
  unfold wpX3_run at h
  refine lv_aload_n hx hb dX3_run_0 rfl (lv_at hl 0 rfl) ?_
  refine z_get C f_X3_31 hP (q0 := 0) rfl rfl dX3_run_1 ?_
  refine lv_bipush (v := 8) hx hb dX3_run_4 (by decide) ?_
  refine lv_iload_n hx hb dX3_run_6 rfl (lv_at hl 1 rfl) ?_
  refine lv_iadd hx hb dX3_run_7 ?_
  refine lv_iconst (v := 1) hx hb dX3_run_8 (by decide) ?_
  obtain ⟨g9, h⟩ := h
  refine va_iast hx hb hK hP hD hS 8 0 rfl rfl g9 dX3_run_9 (fun H locs hP hD hS => ?_)
  have hP : va_P D vwCl (wM cI mA (mo.1, mo.2.1, mo.2.2.1, mo.2.2.2.1, mo.2.2.2.2.1, mo.2.2.2.2.2.1, mo.2.2.2.2.2.2.1, mo.2.2.2.2.2.2.2.1, mo.2.2.2.2.2.2.2.2.1, mo.2.2.2.2.2.2.2.2.2.1, (upd mo.2.2.2.2.2.2.2.2.2.2.1 (8 + p0).toNatClampNeg 1), mo.2.2.2.2.2.2.2.2.2.2.2)) H := hP
  have hD : va_D A (wM cI mA (mo.1, mo.2.1, mo.2.2.1, mo.2.2.2.1, mo.2.2.2.2.1, mo.2.2.2.2.2.1, mo.2.2.2.2.2.2.1, mo.2.2.2.2.2.2.2.1, mo.2.2.2.2.2.2.2.2.1, mo.2.2.2.2.2.2.2.2.2.1, (upd mo.2.2.2.2.2.2.2.2.2.2.1 (8 + p0).toNatClampNeg 1), mo.2.2.2.2.2.2.2.2.2.2.2)) := hD
  refine lv_aload_n hx hb dX3_run_10 rfl (lv_at hl 0 rfl) ?_
  refine z_get C f_X3_31 hP (q0 := 0) rfl rfl dX3_run_11 ?_
  refine lv_bipush (v := 28) hx hb dX3_run_14 (by decide) ?_
  refine lv_iload_n hx hb dX3_run_16 rfl (lv_at hl 1 rfl) ?_
  refine lv_iadd hx hb dX3_run_17 ?_
  refine lv_aload_n hx hb dX3_run_18 rfl (lv_at hl 0 rfl) ?_
  refine z_get C f_X3_19 hP (q0 := 0) rfl rfl dX3_run_19 ?_
  refine lv_iload_n hx hb dX3_run_22 rfl (lv_at hl 1 rfl) ?_
  obtain ⟨g9, h⟩ := h
  refine va_iald hx hb hK hP 4 0 rfl rfl g9 dX3_run_23 ?_
  obtain ⟨g9, h⟩ := h
  refine va_iast hx hb hK hP hD hS 8 0 rfl rfl g9 dX3_run_24 (fun H locs hP hD hS => ?_)
  have hP : va_P D vwCl (wM cI mA (mo.1, mo.2.1, mo.2.2.1, mo.2.2.2.1, mo.2.2.2.2.1, mo.2.2.2.2.2.1, mo.2.2.2.2.2.2.1, mo.2.2.2.2.2.2.2.1, mo.2.2.2.2.2.2.2.2.1, mo.2.2.2.2.2.2.2.2.2.1, (upd (upd mo.2.2.2.2.2.2.2.2.2.2.1 (8 + p0).toNatClampNeg 1) (28 + p0).toNatClampNeg (mo.2.2.2.2.2.2.1 p0.toNatClampNeg)), mo.2.2.2.2.2.2.2.2.2.2.2)) H := hP
  have hD : va_D A (wM cI mA (mo.1, mo.2.1, mo.2.2.1, mo.2.2.2.1, mo.2.2.2.2.1, mo.2.2.2.2.2.1, mo.2.2.2.2.2.2.1, mo.2.2.2.2.2.2.2.1, mo.2.2.2.2.2.2.2.2.1, mo.2.2.2.2.2.2.2.2.2.1, (upd (upd mo.2.2.2.2.2.2.2.2.2.2.1 (8 + p0).toNatClampNeg 1) (28 + p0).toNatClampNeg (mo.2.2.2.2.2.2.1 p0.toNatClampNeg)), mo.2.2.2.2.2.2.2.2.2.2.2)) := hD
  refine lv_aload_n hx hb dX3_run_25 rfl (lv_at hl 0 rfl) ?_
  refine z_get C f_X3_31 hP (q0 := 0) rfl rfl dX3_run_26 ?_
  refine lv_bipush (v := 48) hx hb dX3_run_29 (by decide) ?_
  refine lv_iload_n hx hb dX3_run_31 rfl (lv_at hl 1 rfl) ?_
  refine lv_iadd hx hb dX3_run_32 ?_
  refine lv_iconst (v := 0) hx hb dX3_run_33 (by decide) ?_
  obtain ⟨g9, h⟩ := h
  refine va_iast hx hb hK hP hD hS 8 0 rfl rfl g9 dX3_run_34 (fun H locs hP hD hS => ?_)
  have hP : va_P D vwCl (wM cI mA (mo.1, mo.2.1, mo.2.2.1, mo.2.2.2.1, mo.2.2.2.2.1, mo.2.2.2.2.2.1, mo.2.2.2.2.2.2.1, mo.2.2.2.2.2.2.2.1, mo.2.2.2.2.2.2.2.2.1, mo.2.2.2.2.2.2.2.2.2.1, (upd (upd (upd mo.2.2.2.2.2.2.2.2.2.2.1 (8 + p0).toNatClampNeg 1) (28 + p0).toNatClampNeg (mo.2.2.2.2.2.2.1 p0.toNatClampNeg)) (48 + p0).toNatClampNeg 0), mo.2.2.2.2.2.2.2.2.2.2.2)) H := hP
  have hD : va_D A (wM cI mA (mo.1, mo.2.1, mo.2.2.1, mo.2.2.2.1, mo.2.2.2.2.1, mo.2.2.2.2.2.1, mo.2.2.2.2.2.2.1, mo.2.2.2.2.2.2.2.1, mo.2.2.2.2.2.2.2.2.1, mo.2.2.2.2.2.2.2.2.2.1, (upd (upd (upd mo.2.2.2.2.2.2.2.2.2.2.1 (8 + p0).toNatClampNeg 1) (28 + p0).toNatClampNeg (mo.2.2.2.2.2.2.1 p0.toNatClampNeg)) (48 + p0).toNatClampNeg 0), mo.2.2.2.2.2.2.2.2.2.2.2)) := hD
  exact zW_vret C (mo.1, mo.2.1, mo.2.2.1, mo.2.2.2.1, mo.2.2.2.2.1, mo.2.2.2.2.2.1, mo.2.2.2.2.2.2.1, mo.2.2.2.2.2.2.2.1, mo.2.2.2.2.2.2.2.2.1, mo.2.2.2.2.2.2.2.2.2.1, (upd (upd (upd mo.2.2.2.2.2.2.2.2.2.2.1 (8 + p0).toNatClampNeg 1) (28 + p0).toNatClampNeg (mo.2.2.2.2.2.2.1 p0.toNatClampNeg)) (48 + p0).toNatClampNeg 0), mo.2.2.2.2.2.2.2.2.2.2.2) rfl h hP hD hS (Nat.le_of_ble_eq_true rfl) (Nat.le_of_ble_eq_true rfl) dX3_run_35
def wpX3_end (post : MS → Prop) (mo : MS) (p0 : Int32) (p1 : Int32) : Prop := vp_in (8 + p0) 68 ∧ (vp_in (28 + p0) 68 ∧ (vp_in (48 + p0) 68 ∧ (post (mo.1, mo.2.1, mo.2.2.1, mo.2.2.2.1, mo.2.2.2.2.1, mo.2.2.2.2.2.1, mo.2.2.2.2.2.2.1, mo.2.2.2.2.2.2.2.1, mo.2.2.2.2.2.2.2.2.1, mo.2.2.2.2.2.2.2.2.2.1, (upd (upd (upd mo.2.2.2.2.2.2.2.2.2.2.1 (8 + p0).toNatClampNeg p1) (28 + p0).toNatClampNeg 0) (48 + p0).toNatClampNeg 0), mo.2.2.2.2.2.2.2.2.2.2.2))))
set_option maxHeartbeats 4000000 in
set_option maxRecDepth 100000 in
theorem c_X3_end {l : Launch} (hfl : l.stackTraces = false) {s0 : State} (hs0 : zS s0) (D : va_G) (cI cB cJ : ClassId) (mA : Nat → Nat) (mo : MS) (p0 : Int32) (p1 : Int32) {post : MS → Prop} (h : wpX3_end post mo p0 p1) : zW s0 l D (zty cI cB cJ) yX3_end cX3_end 3 none 1 0 0 [.ref (mA 0), .int p0, .int p1] (wM cI mA mo) (fun _ : MS => none) (fun u : MS => post u) (fun u : MS => wM cI mA u) := by
  refine zW_intro (by decide +kernel) (Nat.le_of_ble_eq_true rfl) ?_
  intro p e s m below meth c A C hnm hA hG hP hD hS ls hl
  have C : zC D (zty cI cB cJ) p s m ([.ref (mA 0), .int p0, .int p1] : List Value).toArray meth c cX3_end RX3 none 3 := C
  have hx := C.1
  have hb := C.2.1
  have hts := C.2.2.1
  have hown := C.2.2.2.1
  have hml := C.2.2.2.2.2.1
  have hK := C.2.2.2.2.2.2.2
  have hl : lv_has ls 3 [(0, .ref (mA 0)), (1, .int p0), (2, .int p1)] := hl
  have hP : va_P D vwCl (wM cI mA mo) s.heap := hP
  have hD : va_D A (wM cI mA mo) := hD
  unfold wpX3_end at h
  refine lv_aload_n hx hb dX3_end_0 rfl (lv_at hl 0 rfl) ?_
  refine z_get C f_X3_31 hP (q0 := 0) rfl rfl dX3_end_1 ?_
  refine lv_bipush (v := 8) hx hb dX3_end_4 (by decide) ?_
  refine lv_iload_n hx hb dX3_end_6 rfl (lv_at hl 1 rfl) ?_
  refine lv_iadd hx hb dX3_end_7 ?_
  refine lv_iload_n hx hb dX3_end_8 rfl (lv_at hl 2 rfl) ?_
  obtain ⟨g9, h⟩ := h
  refine va_iast hx hb hK hP hD hS 8 0 rfl rfl g9 dX3_end_9 (fun H locs hP hD hS => ?_)
  have hP : va_P D vwCl (wM cI mA (mo.1, mo.2.1, mo.2.2.1, mo.2.2.2.1, mo.2.2.2.2.1, mo.2.2.2.2.2.1, mo.2.2.2.2.2.2.1, mo.2.2.2.2.2.2.2.1, mo.2.2.2.2.2.2.2.2.1, mo.2.2.2.2.2.2.2.2.2.1, (upd mo.2.2.2.2.2.2.2.2.2.2.1 (8 + p0).toNatClampNeg p1), mo.2.2.2.2.2.2.2.2.2.2.2)) H := hP
  have hD : va_D A (wM cI mA (mo.1, mo.2.1, mo.2.2.1, mo.2.2.2.1, mo.2.2.2.2.1, mo.2.2.2.2.2.1, mo.2.2.2.2.2.2.1, mo.2.2.2.2.2.2.2.1, mo.2.2.2.2.2.2.2.2.1, mo.2.2.2.2.2.2.2.2.2.1, (upd mo.2.2.2.2.2.2.2.2.2.2.1 (8 + p0).toNatClampNeg p1), mo.2.2.2.2.2.2.2.2.2.2.2)) := hD
  refine lv_aload_n hx hb dX3_end_10 rfl (lv_at hl 0 rfl) ?_
  refine z_get C f_X3_31 hP (q0 := 0) rfl rfl dX3_end_11 ?_
  refine lv_bipush (v := 28) hx hb dX3_end_14 (by decide) ?_
  refine lv_iload_n hx hb dX3_end_16 rfl (lv_at hl 1 rfl) ?_
  refine lv_iadd hx hb dX3_end_17 ?_
  refine lv_iconst (v := 0) hx hb dX3_end_18 (by decide) ?_
  obtain ⟨g9, h⟩ := h
  refine va_iast hx hb hK hP hD hS 8 0 rfl rfl g9 dX3_end_19 (fun H locs hP hD hS => ?_)
  have hP : va_P D vwCl (wM cI mA (mo.1, mo.2.1, mo.2.2.1, mo.2.2.2.1, mo.2.2.2.2.1, mo.2.2.2.2.2.1, mo.2.2.2.2.2.2.1, mo.2.2.2.2.2.2.2.1, mo.2.2.2.2.2.2.2.2.1, mo.2.2.2.2.2.2.2.2.2.1, (upd (upd mo.2.2.2.2.2.2.2.2.2.2.1 (8 + p0).toNatClampNeg p1) (28 + p0).toNatClampNeg 0), mo.2.2.2.2.2.2.2.2.2.2.2)) H := hP
  have hD : va_D A (wM cI mA (mo.1, mo.2.1, mo.2.2.1, mo.2.2.2.1, mo.2.2.2.2.1, mo.2.2.2.2.2.1, mo.2.2.2.2.2.2.1, mo.2.2.2.2.2.2.2.1, mo.2.2.2.2.2.2.2.2.1, mo.2.2.2.2.2.2.2.2.2.1, (upd (upd mo.2.2.2.2.2.2.2.2.2.2.1 (8 + p0).toNatClampNeg p1) (28 + p0).toNatClampNeg 0), mo.2.2.2.2.2.2.2.2.2.2.2)) := hD
  refine lv_aload_n hx hb dX3_end_20 rfl (lv_at hl 0 rfl) ?_
  refine z_get C f_X3_31 hP (q0 := 0) rfl rfl dX3_end_21 ?_
  refine lv_bipush (v := 48) hx hb dX3_end_24 (by decide) ?_
  refine lv_iload_n hx hb dX3_end_26 rfl (lv_at hl 1 rfl) ?_
  refine lv_iadd hx hb dX3_end_27 ?_
  refine lv_iconst (v := 0) hx hb dX3_end_28 (by decide) ?_
  obtain ⟨g9, h⟩ := h
  refine va_iast hx hb hK hP hD hS 8 0 rfl rfl g9 dX3_end_29 (fun H locs hP hD hS => ?_)
  have hP : va_P D vwCl (wM cI mA (mo.1, mo.2.1, mo.2.2.1, mo.2.2.2.1, mo.2.2.2.2.1, mo.2.2.2.2.2.1, mo.2.2.2.2.2.2.1, mo.2.2.2.2.2.2.2.1, mo.2.2.2.2.2.2.2.2.1, mo.2.2.2.2.2.2.2.2.2.1, (upd (upd (upd mo.2.2.2.2.2.2.2.2.2.2.1 (8 + p0).toNatClampNeg p1) (28 + p0).toNatClampNeg 0) (48 + p0).toNatClampNeg 0), mo.2.2.2.2.2.2.2.2.2.2.2)) H := hP
  have hD : va_D A (wM cI mA (mo.1, mo.2.1, mo.2.2.1, mo.2.2.2.1, mo.2.2.2.2.1, mo.2.2.2.2.2.1, mo.2.2.2.2.2.2.1, mo.2.2.2.2.2.2.2.1, mo.2.2.2.2.2.2.2.2.1, mo.2.2.2.2.2.2.2.2.2.1, (upd (upd (upd mo.2.2.2.2.2.2.2.2.2.2.1 (8 + p0).toNatClampNeg p1) (28 + p0).toNatClampNeg 0) (48 + p0).toNatClampNeg 0), mo.2.2.2.2.2.2.2.2.2.2.2)) := hD
  exact zW_vret C (mo.1, mo.2.1, mo.2.2.1, mo.2.2.2.1, mo.2.2.2.2.1, mo.2.2.2.2.2.1, mo.2.2.2.2.2.2.1, mo.2.2.2.2.2.2.2.1, mo.2.2.2.2.2.2.2.2.1, mo.2.2.2.2.2.2.2.2.2.1, (upd (upd (upd mo.2.2.2.2.2.2.2.2.2.2.1 (8 + p0).toNatClampNeg p1) (28 + p0).toNatClampNeg 0) (48 + p0).toNatClampNeg 0), mo.2.2.2.2.2.2.2.2.2.2.2) rfl h hP hD hS (Nat.le_of_ble_eq_true rfl) (Nat.le_of_ble_eq_true rfl) dX3_end_30
def wpX3_move (post : MS → Prop) (mo : MS) (p0 : Int32) (p1 : Int32) (p2 : Int32) : Prop := vp_in (2 + p0) 68 ∧ (vp_in (2 + p0) 68 ∧ (vp_in (2 + p1) 68 ∧ (vp_in (2 + p1) 68 ∧ (post (mo.1, mo.2.1, mo.2.2.1, mo.2.2.2.1, mo.2.2.2.2.1, mo.2.2.2.2.2.1, mo.2.2.2.2.2.2.1, mo.2.2.2.2.2.2.2.1, mo.2.2.2.2.2.2.2.2.1, mo.2.2.2.2.2.2.2.2.2.1, (upd (upd mo.2.2.2.2.2.2.2.2.2.2.1 (2 + p0).toNatClampNeg ((mo.2.2.2.2.2.2.2.2.2.2.1 (2 + p0).toNatClampNeg) - p2)) (2 + p1).toNatClampNeg (((upd mo.2.2.2.2.2.2.2.2.2.2.1 (2 + p0).toNatClampNeg ((mo.2.2.2.2.2.2.2.2.2.2.1 (2 + p0).toNatClampNeg) - p2)) (2 + p1).toNatClampNeg) + p2)), mo.2.2.2.2.2.2.2.2.2.2.2)))))
set_option maxHeartbeats 4000000 in
set_option maxRecDepth 100000 in
theorem c_X3_move {l : Launch} (hfl : l.stackTraces = false) {s0 : State} (hs0 : zS s0) (D : va_G) (cI cB cJ : ClassId) (mA : Nat → Nat) (mo : MS) (p0 : Int32) (p1 : Int32) (p2 : Int32) {post : MS → Prop} (h : wpX3_move post mo p0 p1 p2) : zW s0 l D (zty cI cB cJ) yX3_move cX3_move 4 none 1 0 0 [.ref (mA 0), .int p0, .int p1, .int p2] (wM cI mA mo) (fun _ : MS => none) (fun u : MS => post u) (fun u : MS => wM cI mA u) := by
  refine zW_intro (by decide +kernel) (Nat.le_of_ble_eq_true rfl) ?_
  intro p e s m below meth c A C hnm hA hG hP hD hS ls hl
  have C : zC D (zty cI cB cJ) p s m ([.ref (mA 0), .int p0, .int p1, .int p2] : List Value).toArray meth c cX3_move RX3 none 4 := C
  have hx := C.1
  have hb := C.2.1
  have hts := C.2.2.1
  have hown := C.2.2.2.1
  have hml := C.2.2.2.2.2.1
  have hK := C.2.2.2.2.2.2.2
  have hl : lv_has ls 4 [(0, .ref (mA 0)), (1, .int p0), (2, .int p1), (3, .int p2)] := hl
  have hP : va_P D vwCl (wM cI mA mo) s.heap := hP
  have hD : va_D A (wM cI mA mo) := hD
  unfold wpX3_move at h
  refine lv_aload_n hx hb dX3_move_0 rfl (lv_at hl 0 rfl) ?_
  refine z_get C f_X3_31 hP (q0 := 0) rfl rfl dX3_move_1 ?_
  refine lv_iconst (v := 2) hx hb dX3_move_4 (by decide) ?_
  refine lv_iload_n hx hb dX3_move_5 rfl (lv_at hl 1 rfl) ?_
  refine lv_iadd hx hb dX3_move_6 ?_
  refine lv_dup2_11 hx hb dX3_move_7 rfl rfl ?_
  obtain ⟨g9, h⟩ := h
  refine va_iald hx hb hK hP 8 0 rfl rfl g9 dX3_move_8 ?_
  refine lv_iload_n hx hb dX3_move_9 rfl (lv_at hl 3 rfl) ?_
  refine lv_isub hx hb dX3_move_10 ?_
  obtain ⟨g9, h⟩ := h
  refine va_iast hx hb hK hP hD hS 8 0 rfl rfl g9 dX3_move_11 (fun H locs hP hD hS => ?_)
  have hP : va_P D vwCl (wM cI mA (mo.1, mo.2.1, mo.2.2.1, mo.2.2.2.1, mo.2.2.2.2.1, mo.2.2.2.2.2.1, mo.2.2.2.2.2.2.1, mo.2.2.2.2.2.2.2.1, mo.2.2.2.2.2.2.2.2.1, mo.2.2.2.2.2.2.2.2.2.1, (upd mo.2.2.2.2.2.2.2.2.2.2.1 (2 + p0).toNatClampNeg ((mo.2.2.2.2.2.2.2.2.2.2.1 (2 + p0).toNatClampNeg) - p2)), mo.2.2.2.2.2.2.2.2.2.2.2)) H := hP
  have hD : va_D A (wM cI mA (mo.1, mo.2.1, mo.2.2.1, mo.2.2.2.1, mo.2.2.2.2.1, mo.2.2.2.2.2.1, mo.2.2.2.2.2.2.1, mo.2.2.2.2.2.2.2.1, mo.2.2.2.2.2.2.2.2.1, mo.2.2.2.2.2.2.2.2.2.1, (upd mo.2.2.2.2.2.2.2.2.2.2.1 (2 + p0).toNatClampNeg ((mo.2.2.2.2.2.2.2.2.2.2.1 (2 + p0).toNatClampNeg) - p2)), mo.2.2.2.2.2.2.2.2.2.2.2)) := hD
  refine lv_aload_n hx hb dX3_move_12 rfl (lv_at hl 0 rfl) ?_
  refine z_get C f_X3_31 hP (q0 := 0) rfl rfl dX3_move_13 ?_
  refine lv_iconst (v := 2) hx hb dX3_move_16 (by decide) ?_
  refine lv_iload_n hx hb dX3_move_17 rfl (lv_at hl 2 rfl) ?_
  refine lv_iadd hx hb dX3_move_18 ?_
  refine lv_dup2_11 hx hb dX3_move_19 rfl rfl ?_
  obtain ⟨g9, h⟩ := h
  refine va_iald hx hb hK hP 8 0 rfl rfl g9 dX3_move_20 ?_
  refine lv_iload_n hx hb dX3_move_21 rfl (lv_at hl 3 rfl) ?_
  refine lv_iadd hx hb dX3_move_22 ?_
  obtain ⟨g9, h⟩ := h
  refine va_iast hx hb hK hP hD hS 8 0 rfl rfl g9 dX3_move_23 (fun H locs hP hD hS => ?_)
  have hP : va_P D vwCl (wM cI mA (mo.1, mo.2.1, mo.2.2.1, mo.2.2.2.1, mo.2.2.2.2.1, mo.2.2.2.2.2.1, mo.2.2.2.2.2.2.1, mo.2.2.2.2.2.2.2.1, mo.2.2.2.2.2.2.2.2.1, mo.2.2.2.2.2.2.2.2.2.1, (upd (upd mo.2.2.2.2.2.2.2.2.2.2.1 (2 + p0).toNatClampNeg ((mo.2.2.2.2.2.2.2.2.2.2.1 (2 + p0).toNatClampNeg) - p2)) (2 + p1).toNatClampNeg (((upd mo.2.2.2.2.2.2.2.2.2.2.1 (2 + p0).toNatClampNeg ((mo.2.2.2.2.2.2.2.2.2.2.1 (2 + p0).toNatClampNeg) - p2)) (2 + p1).toNatClampNeg) + p2)), mo.2.2.2.2.2.2.2.2.2.2.2)) H := hP
  have hD : va_D A (wM cI mA (mo.1, mo.2.1, mo.2.2.1, mo.2.2.2.1, mo.2.2.2.2.1, mo.2.2.2.2.2.1, mo.2.2.2.2.2.2.1, mo.2.2.2.2.2.2.2.1, mo.2.2.2.2.2.2.2.2.1, mo.2.2.2.2.2.2.2.2.2.1, (upd (upd mo.2.2.2.2.2.2.2.2.2.2.1 (2 + p0).toNatClampNeg ((mo.2.2.2.2.2.2.2.2.2.2.1 (2 + p0).toNatClampNeg) - p2)) (2 + p1).toNatClampNeg (((upd mo.2.2.2.2.2.2.2.2.2.2.1 (2 + p0).toNatClampNeg ((mo.2.2.2.2.2.2.2.2.2.2.1 (2 + p0).toNatClampNeg) - p2)) (2 + p1).toNatClampNeg) + p2)), mo.2.2.2.2.2.2.2.2.2.2.2)) := hD
  exact zW_vret C (mo.1, mo.2.1, mo.2.2.1, mo.2.2.2.1, mo.2.2.2.2.1, mo.2.2.2.2.2.1, mo.2.2.2.2.2.2.1, mo.2.2.2.2.2.2.2.1, mo.2.2.2.2.2.2.2.2.1, mo.2.2.2.2.2.2.2.2.2.1, (upd (upd mo.2.2.2.2.2.2.2.2.2.2.1 (2 + p0).toNatClampNeg ((mo.2.2.2.2.2.2.2.2.2.2.1 (2 + p0).toNatClampNeg) - p2)) (2 + p1).toNatClampNeg (((upd mo.2.2.2.2.2.2.2.2.2.2.1 (2 + p0).toNatClampNeg ((mo.2.2.2.2.2.2.2.2.2.2.1 (2 + p0).toNatClampNeg) - p2)) (2 + p1).toNatClampNeg) + p2)), mo.2.2.2.2.2.2.2.2.2.2.2) rfl h hP hD hS (Nat.le_of_ble_eq_true rfl) (Nat.le_of_ble_eq_true rfl) dX3_move_24
def wpX3_releaseBehind_b71 (post : Int32 → MS → Prop) (p0 : Int32) (K6 : Int32 → Int32 → MS → Prop) (x2 : Int32) (x3 : Int32) (mo_ : MS) : Prop := K6 x2 (x3 + 1) mo_
def wpX3_releaseBehind_b62 (post : Int32 → MS → Prop) (p0 : Int32) (K6 : Int32 → Int32 → MS → Prop) (x2 : Int32) (x3 : Int32) (mo_ : MS) : Prop := wpX3_end (fun mo65 => wpX3_releaseBehind_b71 post p0 (fun z0 z1 z2 => K6 z0 z1 z2) (x2 + 1) x3 mo65) mo_ x3 5
def wpX3_releaseBehind_b6 (post : Int32 → MS → Prop) (p0 : Int32) : Nat → Int32 → Int32 → MS → Prop
  | 0, _, _, _ => False
  | n + 1, x2, x3, mo_ => (mo_.2.2.1 ≤ x3 → post x2 mo_) ∧ (¬ mo_.2.2.1 ≤ x3 → wpX3_state (fun r16 => (r16 = 0 → vp_in x3 20 ∧ (((mo_.2.2.2.2.2.2.2.2.2.1 x3.toNatClampNeg) = (-1) → wpX3_releaseBehind_b71 post p0 (fun z0 z1 z2 => wpX3_releaseBehind_b6 post p0 n z0 z1 z2) x2 x3 mo_) ∧ (¬ (mo_.2.2.2.2.2.2.2.2.2.1 x3.toNatClampNeg) = (-1) → vp_in x3 20 ∧ (wpX3_state (fun r42 => (r42 = 4 → wpX3_releaseBehind_b62 post p0 (fun z0 z1 z2 => wpX3_releaseBehind_b6 post p0 n z0 z1 z2) x2 x3 mo_) ∧ (¬ r42 = 4 → (r42 = 5 → wpX3_releaseBehind_b62 post p0 (fun z0 z1 z2 => wpX3_releaseBehind_b6 post p0 n z0 z1 z2) x2 x3 mo_) ∧ (¬ r42 = 5 → wpX3_releaseBehind_b71 post p0 (fun z0 z1 z2 => wpX3_releaseBehind_b6 post p0 n z0 z1 z2) x2 x3 mo_))) mo_ (mo_.2.2.2.2.2.2.2.2.2.1 x3.toNatClampNeg))))) ∧ (¬ r16 = 0 → wpX3_releaseBehind_b71 post p0 (fun z0 z1 z2 => wpX3_releaseBehind_b6 post p0 n z0 z1 z2) x2 x3 mo_)) mo_ x3)
def wpX3_releaseBehind (post : Int32 → MS → Prop) (mo : MS) (p0 : Int32) : Prop := ∃ n6 : Nat, wpX3_releaseBehind_b6 post p0 n6 0 (p0 + 1) mo
set_option maxHeartbeats 4000000 in
set_option maxRecDepth 100000 in
theorem c_X3_releaseBehind {l : Launch} (hfl : l.stackTraces = false) {s0 : State} (hs0 : zS s0) (D : va_G) (cI cB cJ : ClassId) (mA : Nat → Nat) (mo : MS) (p0 : Int32) {post : Int32 → MS → Prop} (h : wpX3_releaseBehind post mo p0) : zW s0 l D (zty cI cB cJ) yX3_releaseBehind cX3_releaseBehind 5 (some .int) 2 0 0 [.ref (mA 0), .int p0] (wM cI mA mo) (fun u : Int32 × MS => some (Value.int u.1)) (fun u : Int32 × MS => post u.1 u.2) (fun u : Int32 × MS => wM cI mA u.2) := by
  refine zW_intro (by decide +kernel) (Nat.le_of_ble_eq_true rfl) ?_
  intro p e s m below meth c A C hnm hA hG hP hD hS ls hl
  have C : zC D (zty cI cB cJ) p s m ([.ref (mA 0), .int p0] : List Value).toArray meth c cX3_releaseBehind RX3 (some .int) 5 := C
  have hx := C.1
  have hb := C.2.1
  have hts := C.2.2.1
  have hown := C.2.2.2.1
  have hml := C.2.2.2.2.2.1
  have hK := C.2.2.2.2.2.2.2
  have hl : lv_has ls 5 [(0, .ref (mA 0)), (1, .int p0)] := hl
  have hP : va_P D vwCl (wM cI mA mo) s.heap := hP
  have hD : va_D A (wM cI mA mo) := hD
  have k71 : ∀ (K6 : Int32 → Int32 → MS → Prop) (hK6 : ∀ (x2 : Int32) (x3 : Int32) (mo_ : MS) (H : Heap) (locs : List Loc), va_P D vwCl (wM cI mA mo_) H → va_D A (wM cI mA mo_) → va_S A s.heap H locs → ∀ (ls : Array Slot), lv_has ls 5 [(0, .ref (mA 0)), (2, .int x2), (3, .int x3)] → K6 x2 x3 mo_ → W p l e (zr 2 0 0) s m ([.ref (mA 0), .int p0] : List Value).toArray below meth c H locs 0 0 (MQ below (zQ D (fun u : Int32 × MS => some (Value.int u.1)) (fun u : Int32 × MS => post u.1 u.2) (fun u : Int32 × MS => wM cI mA u.2) A) ([.ref (mA 0), .int p0] : List Value).toArray s 0 0 A) (F0 m 6 ls [])), ∀ (x2 : Int32) (x3 : Int32) (mo_ : MS) (H : Heap) (locs : List Loc), va_P D vwCl (wM cI mA mo_) H → va_D A (wM cI mA mo_) → va_S A s.heap H locs → ∀ (ls : Array Slot), lv_has ls 5 [(0, .ref (mA 0)), (2, .int x2), (3, .int x3)] → wpX3_releaseBehind_b71 post p0 K6 x2 x3 mo_ → W p l e (zr 2 0 0) s m ([.ref (mA 0), .int p0] : List Value).toArray below meth c H locs 0 0 (MQ below (zQ D (fun u : Int32 × MS => some (Value.int u.1)) (fun u : Int32 × MS => post u.1 u.2) (fun u : Int32 × MS => wM cI mA u.2) A) ([.ref (mA 0), .int p0] : List Value).toArray s 0 0 A) (F0 m 71 ls []) := by
    intro K6 hK6
    intro x2 x3 mo_ H locs hP hD hS ls hl h
    unfold wpX3_releaseBehind_b71 at h
    refine lv_iinc (v := (x3 + 1)) (lv' := [(3, .int (x3 + 1)), (0, .ref (mA 0)), (2, .int x2)]) hx hb dX3_releaseBehind_71 hl (k := 2) rfl (by first | rfl | decide) (by decide) rfl (fun ls hl => ?_)
    refine lv_goto (tgt := 6) hx hb dX3_releaseBehind_74 (by decide) ?_
    refine W.widen (k := 0) (n := 0) (Nat.le_of_ble_eq_true rfl) (Nat.le_of_ble_eq_true rfl) ?_
    exact hK6 x2 (x3 + 1) mo_  _ _ hP hD hS _ (lv_sub hl [1, 2, 0] rfl) h
  have k62 : ∀ (K6 : Int32 → Int32 → MS → Prop) (hK6 : ∀ (x2 : Int32) (x3 : Int32) (mo_ : MS) (H : Heap) (locs : List Loc), va_P D vwCl (wM cI mA mo_) H → va_D A (wM cI mA mo_) → va_S A s.heap H locs → ∀ (ls : Array Slot), lv_has ls 5 [(0, .ref (mA 0)), (2, .int x2), (3, .int x3)] → K6 x2 x3 mo_ → W p l e (zr 2 0 0) s m ([.ref (mA 0), .int p0] : List Value).toArray below meth c H locs 0 0 (MQ below (zQ D (fun u : Int32 × MS => some (Value.int u.1)) (fun u : Int32 × MS => post u.1 u.2) (fun u : Int32 × MS => wM cI mA u.2) A) ([.ref (mA 0), .int p0] : List Value).toArray s 0 0 A) (F0 m 6 ls [])), ∀ (x2 : Int32) (x3 : Int32) (mo_ : MS) (H : Heap) (locs : List Loc), va_P D vwCl (wM cI mA mo_) H → va_D A (wM cI mA mo_) → va_S A s.heap H locs → ∀ (ls : Array Slot), lv_has ls 5 [(0, .ref (mA 0)), (2, .int x2), (3, .int x3)] → wpX3_releaseBehind_b62 post p0 K6 x2 x3 mo_ → W p l e (zr 2 0 0) s m ([.ref (mA 0), .int p0] : List Value).toArray below meth c H locs 0 0 (MQ below (zQ D (fun u : Int32 × MS => some (Value.int u.1)) (fun u : Int32 × MS => post u.1 u.2) (fun u : Int32 × MS => wM cI mA u.2) A) ([.ref (mA 0), .int p0] : List Value).toArray s 0 0 A) (F0 m 62 ls []) := by
    intro K6 hK6
    intro x2 x3 mo_ H locs hP hD hS ls hl h
    unfold wpX3_releaseBehind_b62 at h
    refine lv_aload_n hx hb dX3_releaseBehind_62 rfl (lv_at hl 0 rfl) ?_
    refine lv_iload_n hx hb dX3_releaseBehind_63 rfl (lv_at hl 2 rfl) ?_
    refine lv_iconst (v := 5) hx hb dX3_releaseBehind_64 (by decide) ?_
    refine z_WV (As := [.int x3, .int 5]) (rest := []) (wr := ([] : va_W)) (wN := (fun u : MS => wM cI mA u)) [0, 1, 2, 3, 4, 5, 6, 7, 8, 9] [] [0, 1, 2, 3, 4, 5, 6, 7, 8, 9] C hG hA hP hD hS (c_X3_end hfl hs0 D cI cB cJ mA mo_ x3 5 h) q82 v_X3_end rfl rfl ⟨by decide, by decide, by decide⟩ (by decide) (fun _ => rfl) rfl rfl rfl ⟨(Nat.le_of_ble_eq_true rfl), (Nat.le_of_ble_eq_true rfl)⟩ ⟨(Nat.le_of_ble_eq_true rfl), (Nat.le_of_ble_eq_true rfl)⟩ hl.1 rfl (lv_room (Nat.le_of_ble_eq_true rfl)) dX3_releaseBehind_65 (fun u H locs h hP hD hS => ?_)
    obtain ⟨mo65, rfl⟩ : ∃ z, z = u := ⟨_, rfl⟩
    have hP : va_P D vwCl (wM cI mA mo65) H := hP
    have hD : va_D A (wM cI mA mo65) := hD
    refine lv_iinc (v := (x2 + 1)) (lv' := [(2, .int (x2 + 1)), (0, .ref (mA 0)), (3, .int x3)]) hx hb dX3_releaseBehind_68 hl (k := 1) rfl (by first | rfl | decide) (by decide) rfl (fun ls hl => ?_)
    refine W.widen (k := 0) (n := 0) (Nat.le_of_ble_eq_true rfl) (Nat.le_of_ble_eq_true rfl) ?_
    exact k71 _ hK6 (x2 + 1) x3 mo65  _ _ hP hD hS _ (lv_sub hl [1, 0, 2] rfl) h
  have k6 : ∀ (n : Nat) (x2 : Int32) (x3 : Int32) (mo_ : MS) (H : Heap) (locs : List Loc), va_P D vwCl (wM cI mA mo_) H → va_D A (wM cI mA mo_) → va_S A s.heap H locs → ∀ (ls : Array Slot), lv_has ls 5 [(0, .ref (mA 0)), (2, .int x2), (3, .int x3)] → wpX3_releaseBehind_b6 post p0 n x2 x3 mo_ → W p l e (zr 2 0 0) s m ([.ref (mA 0), .int p0] : List Value).toArray below meth c H locs 0 0 (MQ below (zQ D (fun u : Int32 × MS => some (Value.int u.1)) (fun u : Int32 × MS => post u.1 u.2) (fun u : Int32 × MS => wM cI mA u.2) A) ([.ref (mA 0), .int p0] : List Value).toArray s 0 0 A) (F0 m 6 ls []) := by
    intro n
    induction n with
    | zero =>
      intro x2 x3 mo_ H locs hP hD hS ls hl h
      exact h.elim
    | succ n ih =>
      intro x2 x3 mo_ H locs hP hD hS ls hl h
      rw [wpX3_releaseBehind_b6] at h
      refine lv_iload_n hx hb dX3_releaseBehind_6 rfl (lv_at hl 2 rfl) ?_
      refine lv_aload_n hx hb dX3_releaseBehind_7 rfl (lv_at hl 0 rfl) ?_
      refine z_get C f_X3_55 hP (q0 := 0) rfl rfl dX3_releaseBehind_8 ?_
      refine lv_icmp_ge (tgt := 77) hx hb dX3_releaseBehind_11 (by decide) (fun c11 => ?_) (fun c11 => ?_)
      · have h := h.1 c11
        refine lv_iload_n hx hb dX3_releaseBehind_77 rfl (lv_at hl 1 rfl) ?_
        exact zW_iret C (x2, mo_) rfl h hP hD hS (Nat.le_of_ble_eq_true rfl) (Nat.le_of_ble_eq_true rfl) dX3_releaseBehind_78
      · have h := h.2 c11
        refine lv_aload_n hx hb dX3_releaseBehind_14 rfl (lv_at hl 0 rfl) ?_
        refine lv_iload_n hx hb dX3_releaseBehind_15 rfl (lv_at hl 2 rfl) ?_
        refine z_RV (As := [.int x3]) (rest := []) [0, 1, 2, 3, 4, 5, 6, 7, 8, 9] C (hG.kept hS.1 hS.2.1).none hP (c_X3_state hfl hs0 D cI cB cJ mA mo_ x3 h) q74 v_X3_state rfl rfl rfl rfl ⟨(Nat.le_of_ble_eq_true rfl), (Nat.le_of_ble_eq_true rfl)⟩ ⟨(Nat.le_of_ble_eq_true rfl), (Nat.le_of_ble_eq_true rfl)⟩ hl.1 rfl (lv_room (Nat.le_of_ble_eq_true rfl)) dX3_releaseBehind_16 (fun r16 h => ?_)
        refine lv_if_ne (tgt := 71) hx hb dX3_releaseBehind_19 (by decide) (fun c19 => ?_) (fun c19 => ?_)
        · have h := h.2 c19
          refine W.widen (k := 0) (n := 0) (Nat.le_of_ble_eq_true rfl) (Nat.le_of_ble_eq_true rfl) ?_
          exact k71 _ ih x2 x3 mo_  _ _ hP hD hS _ (lv_sub hl [0, 1, 2] rfl) h
        · have h := h.1 c19
          refine lv_aload_n hx hb dX3_releaseBehind_22 rfl (lv_at hl 0 rfl) ?_
          refine z_get C f_X3_28 hP (q0 := 0) rfl rfl dX3_releaseBehind_23 ?_
          refine lv_iload_n hx hb dX3_releaseBehind_26 rfl (lv_at hl 2 rfl) ?_
          obtain ⟨g9, h⟩ := h
          refine va_iald hx hb hK hP 7 0 rfl rfl g9 dX3_releaseBehind_27 ?_
          refine lv_iconst (v := (-1)) hx hb dX3_releaseBehind_28 (by decide) ?_
          refine lv_icmp_ne (tgt := 35) hx hb dX3_releaseBehind_29 (by decide) (fun c29 => ?_) (fun c29 => ?_)
          · have h := h.2 c29
            refine lv_aload_n hx hb dX3_releaseBehind_35 rfl (lv_at hl 0 rfl) ?_
            refine lv_aload_n hx hb dX3_releaseBehind_36 rfl (lv_at hl 0 rfl) ?_
            refine z_get C f_X3_28 hP (q0 := 0) rfl rfl dX3_releaseBehind_37 ?_
            refine lv_iload_n hx hb dX3_releaseBehind_40 rfl (lv_at hl 2 rfl) ?_
            obtain ⟨g9, h⟩ := h
            refine va_iald hx hb hK hP 7 0 rfl rfl g9 dX3_releaseBehind_41 ?_
            refine z_RV (As := [.int (mo_.2.2.2.2.2.2.2.2.2.1 x3.toNatClampNeg)]) (rest := []) [0, 1, 2, 3, 4, 5, 6, 7, 8, 9] C (hG.kept hS.1 hS.2.1).none hP (c_X3_state hfl hs0 D cI cB cJ mA mo_ (mo_.2.2.2.2.2.2.2.2.2.1 x3.toNatClampNeg) h) q74 v_X3_state rfl rfl rfl rfl ⟨(Nat.le_of_ble_eq_true rfl), (Nat.le_of_ble_eq_true rfl)⟩ ⟨(Nat.le_of_ble_eq_true rfl), (Nat.le_of_ble_eq_true rfl)⟩ hl.1 rfl (lv_room (Nat.le_of_ble_eq_true rfl)) dX3_releaseBehind_42 (fun r42 h => ?_)
            refine lv_istore (lv' := [(4, .int r42), (0, .ref (mA 0)), (2, .int x2), (3, .int x3)]) hx hb dX3_releaseBehind_45 hl (by decide) rfl (fun ls hl => ?_)
            refine lv_iload hx hb dX3_releaseBehind_47 (lv_at hl 0 rfl) ?_
            refine lv_iconst (v := 4) hx hb dX3_releaseBehind_49 (by decide) ?_
            refine lv_icmp_eq (tgt := 62) hx hb dX3_releaseBehind_50 (by decide) (fun c50 => ?_) (fun c50 => ?_)
            · have h := h.1 c50
              refine W.widen (k := 0) (n := 0) (Nat.le_of_ble_eq_true rfl) (Nat.le_of_ble_eq_true rfl) ?_
              exact k62 _ ih x2 x3 mo_  _ _ hP hD hS _ (lv_sub hl [1, 2, 3] rfl) h
            · have h := h.2 c50
              refine lv_iload hx hb dX3_releaseBehind_53 (lv_at hl 0 rfl) ?_
              refine lv_iconst (v := 5) hx hb dX3_releaseBehind_55 (by decide) ?_
              refine lv_icmp_eq (tgt := 62) hx hb dX3_releaseBehind_56 (by decide) (fun c56 => ?_) (fun c56 => ?_)
              · have h := h.1 c56
                refine W.widen (k := 0) (n := 0) (Nat.le_of_ble_eq_true rfl) (Nat.le_of_ble_eq_true rfl) ?_
                exact k62 _ ih x2 x3 mo_  _ _ hP hD hS _ (lv_sub hl [1, 2, 3] rfl) h
              · have h := h.2 c56
                refine lv_goto (tgt := 71) hx hb dX3_releaseBehind_59 (by decide) ?_
                refine W.widen (k := 0) (n := 0) (Nat.le_of_ble_eq_true rfl) (Nat.le_of_ble_eq_true rfl) ?_
                exact k71 _ ih x2 x3 mo_  _ _ hP hD hS _ (lv_sub hl [1, 2, 3] rfl) h
          · have h := h.1 c29
            refine lv_goto (tgt := 71) hx hb dX3_releaseBehind_32 (by decide) ?_
            refine W.widen (k := 0) (n := 0) (Nat.le_of_ble_eq_true rfl) (Nat.le_of_ble_eq_true rfl) ?_
            exact k71 _ ih x2 x3 mo_  _ _ hP hD hS _ (lv_sub hl [0, 1, 2] rfl) h
  unfold wpX3_releaseBehind at h
  refine lv_iconst (v := 0) hx hb dX3_releaseBehind_0 (by decide) ?_
  refine lv_istore_n (lv' := [(2, .int 0), (0, .ref (mA 0)), (1, .int p0)]) hx hb dX3_releaseBehind_1 rfl hl (by decide) rfl (fun ls hl => ?_)
  refine lv_iload_n hx hb dX3_releaseBehind_2 rfl (lv_at hl 2 rfl) ?_
  refine lv_iconst (v := 1) hx hb dX3_releaseBehind_3 (by decide) ?_
  refine lv_iadd hx hb dX3_releaseBehind_4 ?_
  refine lv_istore_n (lv' := [(3, .int (p0 + 1)), (2, .int 0), (0, .ref (mA 0)), (1, .int p0)]) hx hb dX3_releaseBehind_5 rfl hl (by decide) rfl (fun ls hl => ?_)
  refine W.widen (k := 0) (n := 0) (Nat.le_of_ble_eq_true rfl) (Nat.le_of_ble_eq_true rfl) ?_
  obtain ⟨n9, h⟩ := h
  exact k6 n9 0 (p0 + 1) mo  _ _ hP hD hS _ (lv_sub hl [2, 1, 0] rfl) h
def wpX3_paid_b62 (post : MS → Prop) (p0 : Int32) (K31 : Int32 → MS → Prop) (x2 : Int32) (mo_ : MS) : Prop := K31 (x2 + 1) mo_
def wpX3_paid_b31 (post : MS → Prop) (p0 : Int32) : Nat → Int32 → MS → Prop
  | 0, _, _ => False
  | n + 1, x2, mo_ => (mo_.2.2.1 ≤ x2 → post mo_) ∧ (¬ mo_.2.2.1 ≤ x2 → vp_in x2 20 ∧ (((mo_.2.2.2.2.2.2.2.2.2.1 x2.toNatClampNeg) = p0 → wpX3_state (fun r51 => (r51 = 0 → wpX3_run (fun mo59 => wpX3_paid_b62 post p0 (fun z0 z1 => wpX3_paid_b31 post p0 n z0 z1) x2 mo59) mo_ x2) ∧ (¬ r51 = 0 → wpX3_paid_b62 post p0 (fun z0 z1 => wpX3_paid_b31 post p0 n z0 z1) x2 mo_)) mo_ x2) ∧ (¬ (mo_.2.2.2.2.2.2.2.2.2.1 x2.toNatClampNeg) = p0 → wpX3_paid_b62 post p0 (fun z0 z1 => wpX3_paid_b31 post p0 n z0 z1) x2 mo_)))
def wpX3_paid (post : MS → Prop) (mo : MS) (p0 : Int32) : Prop := vp_in p0 20 ∧ (vp_in p0 20 ∧ (wpX3_price (fun r15 => wpX3_move (fun mo18 => wpX3_end (fun mo24 => ∃ n31 : Nat, wpX3_paid_b31 post p0 n31 (p0 + 1) mo24) mo18 p0 3) mo (mo.2.2.2.1 p0.toNatClampNeg) (mo.2.2.2.2.1 p0.toNatClampNeg) r15) mo p0))
set_option maxHeartbeats 4000000 in
set_option maxRecDepth 100000 in
theorem c_X3_paid {l : Launch} (hfl : l.stackTraces = false) {s0 : State} (hs0 : zS s0) (D : va_G) (cI cB cJ : ClassId) (mA : Nat → Nat) (mo : MS) (p0 : Int32) {post : MS → Prop} (h : wpX3_paid post mo p0) : zW s0 l D (zty cI cB cJ) yX3_paid cX3_paid 3 none 3 0 0 [.ref (mA 0), .int p0] (wM cI mA mo) (fun _ : MS => none) (fun u : MS => post u) (fun u : MS => wM cI mA u) := by
  refine zW_intro (by decide +kernel) (Nat.le_of_ble_eq_true rfl) ?_
  intro p e s m below meth c A C hnm hA hG hP hD hS ls hl
  have C : zC D (zty cI cB cJ) p s m ([.ref (mA 0), .int p0] : List Value).toArray meth c cX3_paid RX3 none 3 := C
  have hx := C.1
  have hb := C.2.1
  have hts := C.2.2.1
  have hown := C.2.2.2.1
  have hml := C.2.2.2.2.2.1
  have hK := C.2.2.2.2.2.2.2
  have hl : lv_has ls 3 [(0, .ref (mA 0)), (1, .int p0)] := hl
  have hP : va_P D vwCl (wM cI mA mo) s.heap := hP
  have hD : va_D A (wM cI mA mo) := hD
  have k62 : ∀ (K31 : Int32 → MS → Prop) (hK31 : ∀ (x2 : Int32) (mo_ : MS) (H : Heap) (locs : List Loc), va_P D vwCl (wM cI mA mo_) H → va_D A (wM cI mA mo_) → va_S A s.heap H locs → ∀ (ls : Array Slot), lv_has ls 3 [(0, .ref (mA 0)), (1, .int p0), (2, .int x2)] → K31 x2 mo_ → W p l e (zr 3 0 0) s m ([.ref (mA 0), .int p0] : List Value).toArray below meth c H locs 0 0 (MQ below (zQ D (fun _ : MS => none) (fun u : MS => post u) (fun u : MS => wM cI mA u) A) ([.ref (mA 0), .int p0] : List Value).toArray s 0 0 A) (F0 m 31 ls [])), ∀ (x2 : Int32) (mo_ : MS) (H : Heap) (locs : List Loc), va_P D vwCl (wM cI mA mo_) H → va_D A (wM cI mA mo_) → va_S A s.heap H locs → ∀ (ls : Array Slot), lv_has ls 3 [(0, .ref (mA 0)), (1, .int p0), (2, .int x2)] → wpX3_paid_b62 post p0 K31 x2 mo_ → W p l e (zr 3 0 0) s m ([.ref (mA 0), .int p0] : List Value).toArray below meth c H locs 0 0 (MQ below (zQ D (fun _ : MS => none) (fun u : MS => post u) (fun u : MS => wM cI mA u) A) ([.ref (mA 0), .int p0] : List Value).toArray s 0 0 A) (F0 m 62 ls []) := by
    intro K31 hK31
    intro x2 mo_ H locs hP hD hS ls hl h
    unfold wpX3_paid_b62 at h
    refine lv_iinc (v := (x2 + 1)) (lv' := [(2, .int (x2 + 1)), (0, .ref (mA 0)), (1, .int p0)]) hx hb dX3_paid_62 hl (k := 2) rfl (by first | rfl | decide) (by decide) rfl (fun ls hl => ?_)
    refine lv_goto (tgt := 31) hx hb dX3_paid_65 (by decide) ?_
    refine W.widen (k := 0) (n := 0) (Nat.le_of_ble_eq_true rfl) (Nat.le_of_ble_eq_true rfl) ?_
    exact hK31 (x2 + 1) mo_  _ _ hP hD hS _ (lv_sub hl [1, 2, 0] rfl) h
  have k31 : ∀ (n : Nat) (x2 : Int32) (mo_ : MS) (H : Heap) (locs : List Loc), va_P D vwCl (wM cI mA mo_) H → va_D A (wM cI mA mo_) → va_S A s.heap H locs → ∀ (ls : Array Slot), lv_has ls 3 [(0, .ref (mA 0)), (1, .int p0), (2, .int x2)] → wpX3_paid_b31 post p0 n x2 mo_ → W p l e (zr 3 0 0) s m ([.ref (mA 0), .int p0] : List Value).toArray below meth c H locs 0 0 (MQ below (zQ D (fun _ : MS => none) (fun u : MS => post u) (fun u : MS => wM cI mA u) A) ([.ref (mA 0), .int p0] : List Value).toArray s 0 0 A) (F0 m 31 ls []) := by
    intro n
    induction n with
    | zero =>
      intro x2 mo_ H locs hP hD hS ls hl h
      exact h.elim
    | succ n ih =>
      intro x2 mo_ H locs hP hD hS ls hl h
      rw [wpX3_paid_b31] at h
      refine lv_iload_n hx hb dX3_paid_31 rfl (lv_at hl 2 rfl) ?_
      refine lv_aload_n hx hb dX3_paid_32 rfl (lv_at hl 0 rfl) ?_
      refine z_get C f_X3_55 hP (q0 := 0) rfl rfl dX3_paid_33 ?_
      refine lv_icmp_ge (tgt := 68) hx hb dX3_paid_36 (by decide) (fun c36 => ?_) (fun c36 => ?_)
      · have h := h.1 c36
        exact zW_vret C mo_ rfl h hP hD hS (Nat.le_of_ble_eq_true rfl) (Nat.le_of_ble_eq_true rfl) dX3_paid_68
      · have h := h.2 c36
        refine lv_aload_n hx hb dX3_paid_39 rfl (lv_at hl 0 rfl) ?_
        refine z_get C f_X3_28 hP (q0 := 0) rfl rfl dX3_paid_40 ?_
        refine lv_iload_n hx hb dX3_paid_43 rfl (lv_at hl 2 rfl) ?_
        obtain ⟨g9, h⟩ := h
        refine va_iald hx hb hK hP 7 0 rfl rfl g9 dX3_paid_44 ?_
        refine lv_iload_n hx hb dX3_paid_45 rfl (lv_at hl 1 rfl) ?_
        refine lv_icmp_ne (tgt := 62) hx hb dX3_paid_46 (by decide) (fun c46 => ?_) (fun c46 => ?_)
        · have h := h.2 c46
          refine W.widen (k := 0) (n := 0) (Nat.le_of_ble_eq_true rfl) (Nat.le_of_ble_eq_true rfl) ?_
          exact k62 _ ih x2 mo_  _ _ hP hD hS _ (lv_sub hl [0, 1, 2] rfl) h
        · have h := h.1 c46
          refine lv_aload_n hx hb dX3_paid_49 rfl (lv_at hl 0 rfl) ?_
          refine lv_iload_n hx hb dX3_paid_50 rfl (lv_at hl 2 rfl) ?_
          refine z_RV (As := [.int x2]) (rest := []) [0, 1, 2, 3, 4, 5, 6, 7, 8, 9] C (hG.kept hS.1 hS.2.1).none hP (c_X3_state hfl hs0 D cI cB cJ mA mo_ x2 h) q74 v_X3_state rfl rfl rfl rfl ⟨(Nat.le_of_ble_eq_true rfl), (Nat.le_of_ble_eq_true rfl)⟩ ⟨(Nat.le_of_ble_eq_true rfl), (Nat.le_of_ble_eq_true rfl)⟩ hl.1 rfl (lv_room (Nat.le_of_ble_eq_true rfl)) dX3_paid_51 (fun r51 h => ?_)
          refine lv_if_ne (tgt := 62) hx hb dX3_paid_54 (by decide) (fun c54 => ?_) (fun c54 => ?_)
          · have h := h.2 c54
            refine W.widen (k := 0) (n := 0) (Nat.le_of_ble_eq_true rfl) (Nat.le_of_ble_eq_true rfl) ?_
            exact k62 _ ih x2 mo_  _ _ hP hD hS _ (lv_sub hl [0, 1, 2] rfl) h
          · have h := h.1 c54
            refine lv_aload_n hx hb dX3_paid_57 rfl (lv_at hl 0 rfl) ?_
            refine lv_iload_n hx hb dX3_paid_58 rfl (lv_at hl 2 rfl) ?_
            refine z_WV (As := [.int x2]) (rest := []) (wr := ([] : va_W)) (wN := (fun u : MS => wM cI mA u)) [0, 1, 2, 3, 4, 5, 6, 7, 8, 9] [] [0, 1, 2, 3, 4, 5, 6, 7, 8, 9] C hG hA hP hD hS (c_X3_run hfl hs0 D cI cB cJ mA mo_ x2 h) q96 v_X3_run rfl rfl ⟨by decide, by decide, by decide⟩ (by decide) (fun _ => rfl) rfl rfl rfl ⟨(Nat.le_of_ble_eq_true rfl), (Nat.le_of_ble_eq_true rfl)⟩ ⟨(Nat.le_of_ble_eq_true rfl), (Nat.le_of_ble_eq_true rfl)⟩ hl.1 rfl (lv_room (Nat.le_of_ble_eq_true rfl)) dX3_paid_59 (fun u H locs h hP hD hS => ?_)
            obtain ⟨mo59, rfl⟩ : ∃ z, z = u := ⟨_, rfl⟩
            have hP : va_P D vwCl (wM cI mA mo59) H := hP
            have hD : va_D A (wM cI mA mo59) := hD
            refine W.widen (k := 0) (n := 0) (Nat.le_of_ble_eq_true rfl) (Nat.le_of_ble_eq_true rfl) ?_
            exact k62 _ ih x2 mo59  _ _ hP hD hS _ (lv_sub hl [0, 1, 2] rfl) h
  unfold wpX3_paid at h
  refine lv_aload_n hx hb dX3_paid_0 rfl (lv_at hl 0 rfl) ?_
  refine lv_aload_n hx hb dX3_paid_1 rfl (lv_at hl 0 rfl) ?_
  refine z_get C f_X3_9 hP (q0 := 0) rfl rfl dX3_paid_2 ?_
  refine lv_iload_n hx hb dX3_paid_5 rfl (lv_at hl 1 rfl) ?_
  obtain ⟨g9, h⟩ := h
  refine va_iald hx hb hK hP 1 0 rfl rfl g9 dX3_paid_6 ?_
  refine lv_aload_n hx hb dX3_paid_7 rfl (lv_at hl 0 rfl) ?_
  refine z_get C f_X3_13 hP (q0 := 0) rfl rfl dX3_paid_8 ?_
  refine lv_iload_n hx hb dX3_paid_11 rfl (lv_at hl 1 rfl) ?_
  obtain ⟨g9, h⟩ := h
  refine va_iald hx hb hK hP 2 0 rfl rfl g9 dX3_paid_12 ?_
  refine lv_aload_n hx hb dX3_paid_13 rfl (lv_at hl 0 rfl) ?_
  refine lv_iload_n hx hb dX3_paid_14 rfl (lv_at hl 1 rfl) ?_
  refine z_RV (As := [.int p0]) (rest := [.int (mo.2.2.2.2.1 p0.toNatClampNeg), .int (mo.2.2.2.1 p0.toNatClampNeg), .ref (mA 0)]) [0, 1, 2, 3, 4, 5, 6, 7, 8, 9] C (hG.kept hS.1 hS.2.1).none hP (c_X3_price hfl hs0 D cI cB cJ mA mo p0 h) q88 v_X3_price rfl rfl rfl rfl ⟨(Nat.le_of_ble_eq_true rfl), (Nat.le_of_ble_eq_true rfl)⟩ ⟨(Nat.le_of_ble_eq_true rfl), (Nat.le_of_ble_eq_true rfl)⟩ hl.1 rfl (lv_room (Nat.le_of_ble_eq_true rfl)) dX3_paid_15 (fun r15 h => ?_)
  refine z_WV (As := [.int (mo.2.2.2.1 p0.toNatClampNeg), .int (mo.2.2.2.2.1 p0.toNatClampNeg), .int r15]) (rest := []) (wr := ([] : va_W)) (wN := (fun u : MS => wM cI mA u)) [0, 1, 2, 3, 4, 5, 6, 7, 8, 9] [] [0, 1, 2, 3, 4, 5, 6, 7, 8, 9] C hG hA hP hD hS (c_X3_move hfl hs0 D cI cB cJ mA mo (mo.2.2.2.1 p0.toNatClampNeg) (mo.2.2.2.2.1 p0.toNatClampNeg) r15 h) q92 v_X3_move rfl rfl ⟨by decide, by decide, by decide⟩ (by decide) (fun _ => rfl) rfl rfl rfl ⟨(Nat.le_of_ble_eq_true rfl), (Nat.le_of_ble_eq_true rfl)⟩ ⟨(Nat.le_of_ble_eq_true rfl), (Nat.le_of_ble_eq_true rfl)⟩ hl.1 rfl (lv_room (Nat.le_of_ble_eq_true rfl)) dX3_paid_18 (fun u H locs h hP hD hS => ?_)
  obtain ⟨mo18, rfl⟩ : ∃ z, z = u := ⟨_, rfl⟩
  have hP : va_P D vwCl (wM cI mA mo18) H := hP
  have hD : va_D A (wM cI mA mo18) := hD
  refine lv_aload_n hx hb dX3_paid_21 rfl (lv_at hl 0 rfl) ?_
  refine lv_iload_n hx hb dX3_paid_22 rfl (lv_at hl 1 rfl) ?_
  refine lv_iconst (v := 3) hx hb dX3_paid_23 (by decide) ?_
  refine z_WV (As := [.int p0, .int 3]) (rest := []) (wr := ([] : va_W)) (wN := (fun u : MS => wM cI mA u)) [0, 1, 2, 3, 4, 5, 6, 7, 8, 9] [] [0, 1, 2, 3, 4, 5, 6, 7, 8, 9] C hG hA hP hD hS (c_X3_end hfl hs0 D cI cB cJ mA mo18 p0 3 h) q82 v_X3_end rfl rfl ⟨by decide, by decide, by decide⟩ (by decide) (fun _ => rfl) rfl rfl rfl ⟨(Nat.le_of_ble_eq_true rfl), (Nat.le_of_ble_eq_true rfl)⟩ ⟨(Nat.le_of_ble_eq_true rfl), (Nat.le_of_ble_eq_true rfl)⟩ hl.1 rfl (lv_room (Nat.le_of_ble_eq_true rfl)) dX3_paid_24 (fun u H locs h hP hD hS => ?_)
  obtain ⟨mo24, rfl⟩ : ∃ z, z = u := ⟨_, rfl⟩
  have hP : va_P D vwCl (wM cI mA mo24) H := hP
  have hD : va_D A (wM cI mA mo24) := hD
  refine lv_iload_n hx hb dX3_paid_27 rfl (lv_at hl 1 rfl) ?_
  refine lv_iconst (v := 1) hx hb dX3_paid_28 (by decide) ?_
  refine lv_iadd hx hb dX3_paid_29 ?_
  refine lv_istore_n (lv' := [(2, .int (p0 + 1)), (0, .ref (mA 0)), (1, .int p0)]) hx hb dX3_paid_30 rfl hl (by decide) rfl (fun ls hl => ?_)
  refine W.widen (k := 0) (n := 0) (Nat.le_of_ble_eq_true rfl) (Nat.le_of_ble_eq_true rfl) ?_
  obtain ⟨n9, h⟩ := h
  exact k31 n9 (p0 + 1) mo24  _ _ hP hD hS _ (lv_sub hl [1, 2, 0] rfl) h
def wpX3_fail (post : MS → Prop) (mo : MS) (p0 : Int32) : Prop := vp_in p0 20 ∧ (vp_in p0 20 ∧ (vp_in (2 + (mo.2.2.2.1 p0.toNatClampNeg)) 68 ∧ (vp_in p0 20 ∧ (vp_in p0 20 ∧ (wpX3_move (fun mo37 => vp_in 1 68 ∧ (vp_in 1 68 ∧ (wpX3_end (fun mo53 => wpX3_releaseBehind (fun r58 mo58 => post mo58) mo53 p0) (mo37.1, mo37.2.1, mo37.2.2.1, mo37.2.2.2.1, mo37.2.2.2.2.1, mo37.2.2.2.2.2.1, mo37.2.2.2.2.2.2.1, mo37.2.2.2.2.2.2.2.1, mo37.2.2.2.2.2.2.2.2.1, mo37.2.2.2.2.2.2.2.2.2.1, (upd mo37.2.2.2.2.2.2.2.2.2.2.1 (1 : Int32).toNatClampNeg ((mo37.2.2.2.2.2.2.2.2.2.2.1 (1 : Int32).toNatClampNeg) + (if (mo.2.2.2.2.2.2.2.2.2.2.1 (2 + (mo.2.2.2.1 p0.toNatClampNeg)).toNatClampNeg) < (mo.2.2.2.2.2.2.2.2.1 p0.toNatClampNeg) then (mo.2.2.2.2.2.2.2.2.2.2.1 (2 + (mo.2.2.2.1 p0.toNatClampNeg)).toNatClampNeg) else (mo.2.2.2.2.2.2.2.2.1 p0.toNatClampNeg)))), mo37.2.2.2.2.2.2.2.2.2.2.2) p0 4))) mo (mo.2.2.2.1 p0.toNatClampNeg) (mo.2.2.2.2.1 p0.toNatClampNeg) (if (mo.2.2.2.2.2.2.2.2.2.2.1 (2 + (mo.2.2.2.1 p0.toNatClampNeg)).toNatClampNeg) < (mo.2.2.2.2.2.2.2.2.1 p0.toNatClampNeg) then (mo.2.2.2.2.2.2.2.2.2.2.1 (2 + (mo.2.2.2.1 p0.toNatClampNeg)).toNatClampNeg) else (mo.2.2.2.2.2.2.2.2.1 p0.toNatClampNeg)))))))
set_option maxHeartbeats 4000000 in
set_option maxRecDepth 100000 in
theorem c_X3_fail {l : Launch} (hfl : l.stackTraces = false) {s0 : State} (hs0 : zS s0) (D : va_G) (cI cB cJ : ClassId) (mA : Nat → Nat) (mo : MS) (p0 : Int32) {post : MS → Prop} (h : wpX3_fail post mo p0) : zW s0 l D (zty cI cB cJ) yX3_fail cX3_fail 3 none 3 0 0 [.ref (mA 0), .int p0] (wM cI mA mo) (fun _ : MS => none) (fun u : MS => post u) (fun u : MS => wM cI mA u) := by
  refine zW_intro (by decide +kernel) (Nat.le_of_ble_eq_true rfl) ?_
  intro p e s m below meth c A C hnm hA hG hP hD hS ls hl
  have C : zC D (zty cI cB cJ) p s m ([.ref (mA 0), .int p0] : List Value).toArray meth c cX3_fail RX3 none 3 := C
  have hx := C.1
  have hb := C.2.1
  have hts := C.2.2.1
  have hown := C.2.2.2.1
  have hml := C.2.2.2.2.2.1
  have hK := C.2.2.2.2.2.2.2
  have hl : lv_has ls 3 [(0, .ref (mA 0)), (1, .int p0)] := hl
  have hP : va_P D vwCl (wM cI mA mo) s.heap := hP
  have hD : va_D A (wM cI mA mo) := hD
  unfold wpX3_fail at h
  refine lv_aload_n hx hb dX3_fail_0 rfl (lv_at hl 0 rfl) ?_
  refine z_get C f_X3_25 hP (q0 := 0) rfl rfl dX3_fail_1 ?_
  refine lv_iload_n hx hb dX3_fail_4 rfl (lv_at hl 1 rfl) ?_
  obtain ⟨g9, h⟩ := h
  refine va_iald hx hb hK hP 6 0 rfl rfl g9 dX3_fail_5 ?_
  refine lv_aload_n hx hb dX3_fail_6 rfl (lv_at hl 0 rfl) ?_
  refine z_get C f_X3_31 hP (q0 := 0) rfl rfl dX3_fail_7 ?_
  refine lv_iconst (v := 2) hx hb dX3_fail_10 (by decide) ?_
  refine lv_aload_n hx hb dX3_fail_11 rfl (lv_at hl 0 rfl) ?_
  refine z_get C f_X3_9 hP (q0 := 0) rfl rfl dX3_fail_12 ?_
  refine lv_iload_n hx hb dX3_fail_15 rfl (lv_at hl 1 rfl) ?_
  obtain ⟨g9, h⟩ := h
  refine va_iald hx hb hK hP 1 0 rfl rfl g9 dX3_fail_16 ?_
  refine lv_iadd hx hb dX3_fail_17 ?_
  obtain ⟨g9, h⟩ := h
  refine va_iald hx hb hK hP 8 0 rfl rfl g9 dX3_fail_18 ?_
  refine va_mmin hx hb (hml.trans hl.1.symm) hown (hts _ q101) (hts _ q43) (hts _ q44) (hts _ q45) (Nat.le_of_ble_eq_true rfl) (Nat.le_of_ble_eq_true rfl) (Nat.le_of_ble_eq_true rfl) (Nat.le_of_ble_eq_true rfl) dX3_fail_19 ?_
  refine lv_istore_n (lv' := [(2, .int (if (mo.2.2.2.2.2.2.2.2.2.2.1 (2 + (mo.2.2.2.1 p0.toNatClampNeg)).toNatClampNeg) < (mo.2.2.2.2.2.2.2.2.1 p0.toNatClampNeg) then (mo.2.2.2.2.2.2.2.2.2.2.1 (2 + (mo.2.2.2.1 p0.toNatClampNeg)).toNatClampNeg) else (mo.2.2.2.2.2.2.2.2.1 p0.toNatClampNeg))), (0, .ref (mA 0)), (1, .int p0)]) hx hb dX3_fail_22 rfl hl (by decide) rfl (fun ls hl => ?_)
  refine lv_aload_n hx hb dX3_fail_23 rfl (lv_at hl 1 rfl) ?_
  refine lv_aload_n hx hb dX3_fail_24 rfl (lv_at hl 1 rfl) ?_
  refine z_get C f_X3_9 hP (q0 := 0) rfl rfl dX3_fail_25 ?_
  refine lv_iload_n hx hb dX3_fail_28 rfl (lv_at hl 2 rfl) ?_
  obtain ⟨g9, h⟩ := h
  refine va_iald hx hb hK hP 1 0 rfl rfl g9 dX3_fail_29 ?_
  refine lv_aload_n hx hb dX3_fail_30 rfl (lv_at hl 1 rfl) ?_
  refine z_get C f_X3_13 hP (q0 := 0) rfl rfl dX3_fail_31 ?_
  refine lv_iload_n hx hb dX3_fail_34 rfl (lv_at hl 2 rfl) ?_
  obtain ⟨g9, h⟩ := h
  refine va_iald hx hb hK hP 2 0 rfl rfl g9 dX3_fail_35 ?_
  refine lv_iload_n hx hb dX3_fail_36 rfl (lv_at hl 0 rfl) ?_
  refine z_WV (As := [.int (mo.2.2.2.1 p0.toNatClampNeg), .int (mo.2.2.2.2.1 p0.toNatClampNeg), .int (if (mo.2.2.2.2.2.2.2.2.2.2.1 (2 + (mo.2.2.2.1 p0.toNatClampNeg)).toNatClampNeg) < (mo.2.2.2.2.2.2.2.2.1 p0.toNatClampNeg) then (mo.2.2.2.2.2.2.2.2.2.2.1 (2 + (mo.2.2.2.1 p0.toNatClampNeg)).toNatClampNeg) else (mo.2.2.2.2.2.2.2.2.1 p0.toNatClampNeg))]) (rest := []) (wr := ([] : va_W)) (wN := (fun u : MS => wM cI mA u)) [0, 1, 2, 3, 4, 5, 6, 7, 8, 9] [] [0, 1, 2, 3, 4, 5, 6, 7, 8, 9] C hG hA hP hD hS (c_X3_move hfl hs0 D cI cB cJ mA mo (mo.2.2.2.1 p0.toNatClampNeg) (mo.2.2.2.2.1 p0.toNatClampNeg) (if (mo.2.2.2.2.2.2.2.2.2.2.1 (2 + (mo.2.2.2.1 p0.toNatClampNeg)).toNatClampNeg) < (mo.2.2.2.2.2.2.2.2.1 p0.toNatClampNeg) then (mo.2.2.2.2.2.2.2.2.2.2.1 (2 + (mo.2.2.2.1 p0.toNatClampNeg)).toNatClampNeg) else (mo.2.2.2.2.2.2.2.2.1 p0.toNatClampNeg)) h) q92 v_X3_move rfl rfl ⟨by decide, by decide, by decide⟩ (by decide) (fun _ => rfl) rfl rfl rfl ⟨(Nat.le_of_ble_eq_true rfl), (Nat.le_of_ble_eq_true rfl)⟩ ⟨(Nat.le_of_ble_eq_true rfl), (Nat.le_of_ble_eq_true rfl)⟩ hl.1 rfl (lv_room (Nat.le_of_ble_eq_true rfl)) dX3_fail_37 (fun u H locs h hP hD hS => ?_)
  obtain ⟨mo37, rfl⟩ : ∃ z, z = u := ⟨_, rfl⟩
  have hP : va_P D vwCl (wM cI mA mo37) H := hP
  have hD : va_D A (wM cI mA mo37) := hD
  refine lv_aload_n hx hb dX3_fail_40 rfl (lv_at hl 1 rfl) ?_
  refine z_get C f_X3_31 hP (q0 := 0) rfl rfl dX3_fail_41 ?_
  refine lv_iconst (v := 1) hx hb dX3_fail_44 (by decide) ?_
  refine lv_dup2_11 hx hb dX3_fail_45 rfl rfl ?_
  obtain ⟨g9, h⟩ := h
  refine va_iald hx hb hK hP 8 0 rfl rfl g9 dX3_fail_46 ?_
  refine lv_iload_n hx hb dX3_fail_47 rfl (lv_at hl 0 rfl) ?_
  refine lv_iadd hx hb dX3_fail_48 ?_
  obtain ⟨g9, h⟩ := h
  refine va_iast hx hb hK hP hD hS 8 0 rfl rfl g9 dX3_fail_49 (fun H locs hP hD hS => ?_)
  have hP : va_P D vwCl (wM cI mA (mo37.1, mo37.2.1, mo37.2.2.1, mo37.2.2.2.1, mo37.2.2.2.2.1, mo37.2.2.2.2.2.1, mo37.2.2.2.2.2.2.1, mo37.2.2.2.2.2.2.2.1, mo37.2.2.2.2.2.2.2.2.1, mo37.2.2.2.2.2.2.2.2.2.1, (upd mo37.2.2.2.2.2.2.2.2.2.2.1 (1 : Int32).toNatClampNeg ((mo37.2.2.2.2.2.2.2.2.2.2.1 (1 : Int32).toNatClampNeg) + (if (mo.2.2.2.2.2.2.2.2.2.2.1 (2 + (mo.2.2.2.1 p0.toNatClampNeg)).toNatClampNeg) < (mo.2.2.2.2.2.2.2.2.1 p0.toNatClampNeg) then (mo.2.2.2.2.2.2.2.2.2.2.1 (2 + (mo.2.2.2.1 p0.toNatClampNeg)).toNatClampNeg) else (mo.2.2.2.2.2.2.2.2.1 p0.toNatClampNeg)))), mo37.2.2.2.2.2.2.2.2.2.2.2)) H := hP
  have hD : va_D A (wM cI mA (mo37.1, mo37.2.1, mo37.2.2.1, mo37.2.2.2.1, mo37.2.2.2.2.1, mo37.2.2.2.2.2.1, mo37.2.2.2.2.2.2.1, mo37.2.2.2.2.2.2.2.1, mo37.2.2.2.2.2.2.2.2.1, mo37.2.2.2.2.2.2.2.2.2.1, (upd mo37.2.2.2.2.2.2.2.2.2.2.1 (1 : Int32).toNatClampNeg ((mo37.2.2.2.2.2.2.2.2.2.2.1 (1 : Int32).toNatClampNeg) + (if (mo.2.2.2.2.2.2.2.2.2.2.1 (2 + (mo.2.2.2.1 p0.toNatClampNeg)).toNatClampNeg) < (mo.2.2.2.2.2.2.2.2.1 p0.toNatClampNeg) then (mo.2.2.2.2.2.2.2.2.2.2.1 (2 + (mo.2.2.2.1 p0.toNatClampNeg)).toNatClampNeg) else (mo.2.2.2.2.2.2.2.2.1 p0.toNatClampNeg)))), mo37.2.2.2.2.2.2.2.2.2.2.2)) := hD
  refine lv_aload_n hx hb dX3_fail_50 rfl (lv_at hl 1 rfl) ?_
  refine lv_iload_n hx hb dX3_fail_51 rfl (lv_at hl 2 rfl) ?_
  refine lv_iconst (v := 4) hx hb dX3_fail_52 (by decide) ?_
  refine z_WV (As := [.int p0, .int 4]) (rest := []) (wr := ([] : va_W)) (wN := (fun u : MS => wM cI mA u)) [0, 1, 2, 3, 4, 5, 6, 7, 8, 9] [] [0, 1, 2, 3, 4, 5, 6, 7, 8, 9] C hG hA hP hD hS (c_X3_end hfl hs0 D cI cB cJ mA (mo37.1, mo37.2.1, mo37.2.2.1, mo37.2.2.2.1, mo37.2.2.2.2.1, mo37.2.2.2.2.2.1, mo37.2.2.2.2.2.2.1, mo37.2.2.2.2.2.2.2.1, mo37.2.2.2.2.2.2.2.2.1, mo37.2.2.2.2.2.2.2.2.2.1, (upd mo37.2.2.2.2.2.2.2.2.2.2.1 (1 : Int32).toNatClampNeg ((mo37.2.2.2.2.2.2.2.2.2.2.1 (1 : Int32).toNatClampNeg) + (if (mo.2.2.2.2.2.2.2.2.2.2.1 (2 + (mo.2.2.2.1 p0.toNatClampNeg)).toNatClampNeg) < (mo.2.2.2.2.2.2.2.2.1 p0.toNatClampNeg) then (mo.2.2.2.2.2.2.2.2.2.2.1 (2 + (mo.2.2.2.1 p0.toNatClampNeg)).toNatClampNeg) else (mo.2.2.2.2.2.2.2.2.1 p0.toNatClampNeg)))), mo37.2.2.2.2.2.2.2.2.2.2.2) p0 4 h) q82 v_X3_end rfl rfl ⟨by decide, by decide, by decide⟩ (by decide) (fun _ => rfl) rfl rfl rfl ⟨(Nat.le_of_ble_eq_true rfl), (Nat.le_of_ble_eq_true rfl)⟩ ⟨(Nat.le_of_ble_eq_true rfl), (Nat.le_of_ble_eq_true rfl)⟩ hl.1 rfl (lv_room (Nat.le_of_ble_eq_true rfl)) dX3_fail_53 (fun u H locs h hP hD hS => ?_)
  obtain ⟨mo53, rfl⟩ : ∃ z, z = u := ⟨_, rfl⟩
  have hP : va_P D vwCl (wM cI mA mo53) H := hP
  have hD : va_D A (wM cI mA mo53) := hD
  refine lv_aload_n hx hb dX3_fail_56 rfl (lv_at hl 1 rfl) ?_
  refine lv_iload_n hx hb dX3_fail_57 rfl (lv_at hl 2 rfl) ?_
  refine z_WV (As := [.int p0]) (rest := []) (wr := ([] : va_W)) (wN := (fun u : Int32 × MS => wM cI mA u.2)) [0, 1, 2, 3, 4, 5, 6, 7, 8, 9] [] [0, 1, 2, 3, 4, 5, 6, 7, 8, 9] C hG hA hP hD hS (c_X3_releaseBehind hfl hs0 D cI cB cJ mA mo53 p0 h) q100 v_X3_releaseBehind rfl rfl ⟨by decide, by decide, by decide⟩ (by decide) (fun _ => rfl) rfl rfl rfl ⟨(Nat.le_of_ble_eq_true rfl), (Nat.le_of_ble_eq_true rfl)⟩ ⟨(Nat.le_of_ble_eq_true rfl), (Nat.le_of_ble_eq_true rfl)⟩ hl.1 rfl (lv_room (Nat.le_of_ble_eq_true rfl)) dX3_fail_58 (fun u H locs h hP hD hS => ?_)
  obtain ⟨r58, mo58⟩ := u
  have hP : va_P D vwCl (wM cI mA mo58) H := hP
  have hD : va_D A (wM cI mA mo58) := hD
  refine lv_pop hx hb dX3_fail_61 rfl ?_
  exact zW_vret C mo58 rfl h hP hD hS (Nat.le_of_ble_eq_true rfl) (Nat.le_of_ble_eq_true rfl) dX3_fail_62
def wpX3_tick_b66 (post : MS → Prop) (p0 : Int32) (y0 : Int32) (mo_ : MS) : Prop := vp_in (8 + p0) 68 ∧ (vp_in p0 20 ∧ (vp_in (28 + p0) 68 ∧ ((y0 = 0 → vp_in p0 20 ∧ (((mo_.2.2.2.2.2.2.2.1 p0.toNatClampNeg) = 0 → wpX3_fail (fun mo107 => post mo107) (mo_.1, mo_.2.1, mo_.2.2.1, mo_.2.2.2.1, mo_.2.2.2.2.1, mo_.2.2.2.2.2.1, mo_.2.2.2.2.2.2.1, mo_.2.2.2.2.2.2.2.1, mo_.2.2.2.2.2.2.2.2.1, mo_.2.2.2.2.2.2.2.2.2.1, (upd (upd mo_.2.2.2.2.2.2.2.2.2.2.1 (8 + p0).toNatClampNeg 2) (28 + p0).toNatClampNeg (mo_.2.2.2.2.2.2.2.1 p0.toNatClampNeg)), mo_.2.2.2.2.2.2.2.2.2.2.2) p0) ∧ (¬ (mo_.2.2.2.2.2.2.2.1 p0.toNatClampNeg) = 0 → post (mo_.1, mo_.2.1, mo_.2.2.1, mo_.2.2.2.1, mo_.2.2.2.2.1, mo_.2.2.2.2.2.1, mo_.2.2.2.2.2.2.1, mo_.2.2.2.2.2.2.2.1, mo_.2.2.2.2.2.2.2.2.1, mo_.2.2.2.2.2.2.2.2.2.1, (upd (upd mo_.2.2.2.2.2.2.2.2.2.2.1 (8 + p0).toNatClampNeg 2) (28 + p0).toNatClampNeg (mo_.2.2.2.2.2.2.2.1 p0.toNatClampNeg)), mo_.2.2.2.2.2.2.2.2.2.2.2)))) ∧ (¬ y0 = 0 → wpX3_fail (fun mo107 => post mo107) (mo_.1, mo_.2.1, mo_.2.2.1, mo_.2.2.2.1, mo_.2.2.2.2.1, mo_.2.2.2.2.2.1, mo_.2.2.2.2.2.2.1, mo_.2.2.2.2.2.2.2.1, mo_.2.2.2.2.2.2.2.2.1, mo_.2.2.2.2.2.2.2.2.2.1, (upd (upd mo_.2.2.2.2.2.2.2.2.2.2.1 (8 + p0).toNatClampNeg 2) (28 + p0).toNatClampNeg (mo_.2.2.2.2.2.2.2.1 p0.toNatClampNeg)), mo_.2.2.2.2.2.2.2.2.2.2.2) p0))))
def wpX3_tick (post : MS → Prop) (mo : MS) (p0 : Int32) : Prop := vp_in (48 + p0) 68 ∧ (((mo.2.2.2.2.2.2.2.2.2.2.1 (48 + p0).toNatClampNeg) ≤ 0 → vp_in (28 + p0) 68 ∧ (vp_in (28 + p0) 68 ∧ (vp_in (28 + p0) 68 ∧ ((((upd mo.2.2.2.2.2.2.2.2.2.2.1 (28 + p0).toNatClampNeg ((mo.2.2.2.2.2.2.2.2.2.2.1 (28 + p0).toNatClampNeg) - 1)) (28 + p0).toNatClampNeg) ≤ 0 → wpX3_state (fun r54 => (r54 = 2 → wpX3_tick_b66 post p0 1 (mo.1, mo.2.1, mo.2.2.1, mo.2.2.2.1, mo.2.2.2.2.1, mo.2.2.2.2.2.1, mo.2.2.2.2.2.2.1, mo.2.2.2.2.2.2.2.1, mo.2.2.2.2.2.2.2.2.1, mo.2.2.2.2.2.2.2.2.2.1, (upd mo.2.2.2.2.2.2.2.2.2.2.1 (28 + p0).toNatClampNeg ((mo.2.2.2.2.2.2.2.2.2.2.1 (28 + p0).toNatClampNeg) - 1)), mo.2.2.2.2.2.2.2.2.2.2.2)) ∧ (¬ r54 = 2 → wpX3_tick_b66 post p0 0 (mo.1, mo.2.1, mo.2.2.1, mo.2.2.2.1, mo.2.2.2.2.1, mo.2.2.2.2.2.1, mo.2.2.2.2.2.2.1, mo.2.2.2.2.2.2.2.1, mo.2.2.2.2.2.2.2.2.1, mo.2.2.2.2.2.2.2.2.2.1, (upd mo.2.2.2.2.2.2.2.2.2.2.1 (28 + p0).toNatClampNeg ((mo.2.2.2.2.2.2.2.2.2.2.1 (28 + p0).toNatClampNeg) - 1)), mo.2.2.2.2.2.2.2.2.2.2.2))) (mo.1, mo.2.1, mo.2.2.1, mo.2.2.2.1, mo.2.2.2.2.1, mo.2.2.2.2.2.1, mo.2.2.2.2.2.2.1, mo.2.2.2.2.2.2.2.1, mo.2.2.2.2.2.2.2.2.1, mo.2.2.2.2.2.2.2.2.2.1, (upd mo.2.2.2.2.2.2.2.2.2.2.1 (28 + p0).toNatClampNeg ((mo.2.2.2.2.2.2.2.2.2.2.1 (28 + p0).toNatClampNeg) - 1)), mo.2.2.2.2.2.2.2.2.2.2.2) p0) ∧ (¬ ((upd mo.2.2.2.2.2.2.2.2.2.2.1 (28 + p0).toNatClampNeg ((mo.2.2.2.2.2.2.2.2.2.2.1 (28 + p0).toNatClampNeg) - 1)) (28 + p0).toNatClampNeg) ≤ 0 → post (mo.1, mo.2.1, mo.2.2.1, mo.2.2.2.1, mo.2.2.2.2.1, mo.2.2.2.2.2.1, mo.2.2.2.2.2.2.1, mo.2.2.2.2.2.2.2.1, mo.2.2.2.2.2.2.2.2.1, mo.2.2.2.2.2.2.2.2.2.1, (upd mo.2.2.2.2.2.2.2.2.2.2.1 (28 + p0).toNatClampNeg ((mo.2.2.2.2.2.2.2.2.2.2.1 (28 + p0).toNatClampNeg) - 1)), mo.2.2.2.2.2.2.2.2.2.2.2)))))) ∧ (¬ (mo.2.2.2.2.2.2.2.2.2.2.1 (48 + p0).toNatClampNeg) ≤ 0 → vp_in (48 + p0) 68 ∧ (vp_in (48 + p0) 68 ∧ (post (mo.1, mo.2.1, mo.2.2.1, mo.2.2.2.1, mo.2.2.2.2.1, mo.2.2.2.2.2.1, mo.2.2.2.2.2.2.1, mo.2.2.2.2.2.2.2.1, mo.2.2.2.2.2.2.2.2.1, mo.2.2.2.2.2.2.2.2.2.1, (upd mo.2.2.2.2.2.2.2.2.2.2.1 (48 + p0).toNatClampNeg ((mo.2.2.2.2.2.2.2.2.2.2.1 (48 + p0).toNatClampNeg) - 1)), mo.2.2.2.2.2.2.2.2.2.2.2)))))
set_option maxHeartbeats 4000000 in
set_option maxRecDepth 100000 in
theorem c_X3_tick {l : Launch} (hfl : l.stackTraces = false) {s0 : State} (hs0 : zS s0) (D : va_G) (cI cB cJ : ClassId) (mA : Nat → Nat) (mo : MS) (p0 : Int32) {post : MS → Prop} (h : wpX3_tick post mo p0) : zW s0 l D (zty cI cB cJ) yX3_tick cX3_tick 3 none 4 0 0 [.ref (mA 0), .int p0] (wM cI mA mo) (fun _ : MS => none) (fun u : MS => post u) (fun u : MS => wM cI mA u) := by
  refine zW_intro (by decide +kernel) (Nat.le_of_ble_eq_true rfl) ?_
  intro p e s m below meth c A C hnm hA hG hP hD hS ls hl
  have C : zC D (zty cI cB cJ) p s m ([.ref (mA 0), .int p0] : List Value).toArray meth c cX3_tick RX3 none 3 := C
  have hx := C.1
  have hb := C.2.1
  have hts := C.2.2.1
  have hown := C.2.2.2.1
  have hml := C.2.2.2.2.2.1
  have hK := C.2.2.2.2.2.2.2
  have hl : lv_has ls 3 [(0, .ref (mA 0)), (1, .int p0)] := hl
  have hP : va_P D vwCl (wM cI mA mo) s.heap := hP
  have hD : va_D A (wM cI mA mo) := hD
  have k66 : ∀ (y0 : Int32) (mo_ : MS) (H : Heap) (locs : List Loc), va_P D vwCl (wM cI mA mo_) H → va_D A (wM cI mA mo_) → va_S A s.heap H locs → ∀ (ls : Array Slot), lv_has ls 3 [(0, .ref (mA 0)), (1, .int p0)] → wpX3_tick_b66 post p0 y0 mo_ → W p l e (zr 4 0 0) s m ([.ref (mA 0), .int p0] : List Value).toArray below meth c H locs 0 0 (MQ below (zQ D (fun _ : MS => none) (fun u : MS => post u) (fun u : MS => wM cI mA u) A) ([.ref (mA 0), .int p0] : List Value).toArray s 0 0 A) (F0 m 66 ls [.int y0]) := by
    intro y0 mo_ H locs hP hD hS ls hl h
    unfold wpX3_tick_b66 at h
    refine lv_istore_n (lv' := [(2, .int y0), (0, .ref (mA 0)), (1, .int p0)]) hx hb dX3_tick_66 rfl hl (by decide) rfl (fun ls hl => ?_)
    refine lv_aload_n hx hb dX3_tick_67 rfl (lv_at hl 1 rfl) ?_
    refine z_get C f_X3_31 hP (q0 := 0) rfl rfl dX3_tick_68 ?_
    refine lv_bipush (v := 8) hx hb dX3_tick_71 (by decide) ?_
    refine lv_iload_n hx hb dX3_tick_73 rfl (lv_at hl 2 rfl) ?_
    refine lv_iadd hx hb dX3_tick_74 ?_
    refine lv_iconst (v := 2) hx hb dX3_tick_75 (by decide) ?_
    obtain ⟨g9, h⟩ := h
    refine va_iast hx hb hK hP hD hS 8 0 rfl rfl g9 dX3_tick_76 (fun H locs hP hD hS => ?_)
    have hP : va_P D vwCl (wM cI mA (mo_.1, mo_.2.1, mo_.2.2.1, mo_.2.2.2.1, mo_.2.2.2.2.1, mo_.2.2.2.2.2.1, mo_.2.2.2.2.2.2.1, mo_.2.2.2.2.2.2.2.1, mo_.2.2.2.2.2.2.2.2.1, mo_.2.2.2.2.2.2.2.2.2.1, (upd mo_.2.2.2.2.2.2.2.2.2.2.1 (8 + p0).toNatClampNeg 2), mo_.2.2.2.2.2.2.2.2.2.2.2)) H := hP
    have hD : va_D A (wM cI mA (mo_.1, mo_.2.1, mo_.2.2.1, mo_.2.2.2.1, mo_.2.2.2.2.1, mo_.2.2.2.2.2.1, mo_.2.2.2.2.2.2.1, mo_.2.2.2.2.2.2.2.1, mo_.2.2.2.2.2.2.2.2.1, mo_.2.2.2.2.2.2.2.2.2.1, (upd mo_.2.2.2.2.2.2.2.2.2.2.1 (8 + p0).toNatClampNeg 2), mo_.2.2.2.2.2.2.2.2.2.2.2)) := hD
    refine lv_aload_n hx hb dX3_tick_77 rfl (lv_at hl 1 rfl) ?_
    refine z_get C f_X3_31 hP (q0 := 0) rfl rfl dX3_tick_78 ?_
    refine lv_bipush (v := 28) hx hb dX3_tick_81 (by decide) ?_
    refine lv_iload_n hx hb dX3_tick_83 rfl (lv_at hl 2 rfl) ?_
    refine lv_iadd hx hb dX3_tick_84 ?_
    refine lv_aload_n hx hb dX3_tick_85 rfl (lv_at hl 1 rfl) ?_
    refine z_get C f_X3_22 hP (q0 := 0) rfl rfl dX3_tick_86 ?_
    refine lv_iload_n hx hb dX3_tick_89 rfl (lv_at hl 2 rfl) ?_
    obtain ⟨g9, h⟩ := h
    refine va_iald hx hb hK hP 5 0 rfl rfl g9 dX3_tick_90 ?_
    obtain ⟨g9, h⟩ := h
    refine va_iast hx hb hK hP hD hS 8 0 rfl rfl g9 dX3_tick_91 (fun H locs hP hD hS => ?_)
    have hP : va_P D vwCl (wM cI mA (mo_.1, mo_.2.1, mo_.2.2.1, mo_.2.2.2.1, mo_.2.2.2.2.1, mo_.2.2.2.2.2.1, mo_.2.2.2.2.2.2.1, mo_.2.2.2.2.2.2.2.1, mo_.2.2.2.2.2.2.2.2.1, mo_.2.2.2.2.2.2.2.2.2.1, (upd (upd mo_.2.2.2.2.2.2.2.2.2.2.1 (8 + p0).toNatClampNeg 2) (28 + p0).toNatClampNeg (mo_.2.2.2.2.2.2.2.1 p0.toNatClampNeg)), mo_.2.2.2.2.2.2.2.2.2.2.2)) H := hP
    have hD : va_D A (wM cI mA (mo_.1, mo_.2.1, mo_.2.2.1, mo_.2.2.2.1, mo_.2.2.2.2.1, mo_.2.2.2.2.2.1, mo_.2.2.2.2.2.2.1, mo_.2.2.2.2.2.2.2.1, mo_.2.2.2.2.2.2.2.2.1, mo_.2.2.2.2.2.2.2.2.2.1, (upd (upd mo_.2.2.2.2.2.2.2.2.2.2.1 (8 + p0).toNatClampNeg 2) (28 + p0).toNatClampNeg (mo_.2.2.2.2.2.2.2.1 p0.toNatClampNeg)), mo_.2.2.2.2.2.2.2.2.2.2.2)) := hD
    refine lv_iload_n hx hb dX3_tick_92 rfl (lv_at hl 0 rfl) ?_
    refine lv_if_ne (tgt := 105) hx hb dX3_tick_93 (by decide) (fun c93 => ?_) (fun c93 => ?_)
    · have h := h.2 c93
      refine lv_aload_n hx hb dX3_tick_105 rfl (lv_at hl 1 rfl) ?_
      refine lv_iload_n hx hb dX3_tick_106 rfl (lv_at hl 2 rfl) ?_
      refine z_WV (As := [.int p0]) (rest := []) (wr := ([] : va_W)) (wN := (fun u : MS => wM cI mA u)) [0, 1, 2, 3, 4, 5, 6, 7, 8, 9] [] [0, 1, 2, 3, 4, 5, 6, 7, 8, 9] C hG hA hP hD hS (c_X3_fail hfl hs0 D cI cB cJ mA (mo_.1, mo_.2.1, mo_.2.2.1, mo_.2.2.2.1, mo_.2.2.2.2.1, mo_.2.2.2.2.2.1, mo_.2.2.2.2.2.2.1, mo_.2.2.2.2.2.2.2.1, mo_.2.2.2.2.2.2.2.2.1, mo_.2.2.2.2.2.2.2.2.2.1, (upd (upd mo_.2.2.2.2.2.2.2.2.2.2.1 (8 + p0).toNatClampNeg 2) (28 + p0).toNatClampNeg (mo_.2.2.2.2.2.2.2.1 p0.toNatClampNeg)), mo_.2.2.2.2.2.2.2.2.2.2.2) p0 h) q106 v_X3_fail rfl rfl ⟨by decide, by decide, by decide⟩ (by decide) (fun _ => rfl) rfl rfl rfl ⟨(Nat.le_of_ble_eq_true rfl), (Nat.le_of_ble_eq_true rfl)⟩ ⟨(Nat.le_of_ble_eq_true rfl), (Nat.le_of_ble_eq_true rfl)⟩ hl.1 rfl (lv_room (Nat.le_of_ble_eq_true rfl)) dX3_tick_107 (fun u H locs h hP hD hS => ?_)
      obtain ⟨mo107, rfl⟩ : ∃ z, z = u := ⟨_, rfl⟩
      have hP : va_P D vwCl (wM cI mA mo107) H := hP
      have hD : va_D A (wM cI mA mo107) := hD
      exact zW_vret C mo107 rfl h hP hD hS (Nat.le_of_ble_eq_true rfl) (Nat.le_of_ble_eq_true rfl) dX3_tick_110
    · have h := h.1 c93
      refine lv_aload_n hx hb dX3_tick_96 rfl (lv_at hl 1 rfl) ?_
      refine z_get C f_X3_22 hP (q0 := 0) rfl rfl dX3_tick_97 ?_
      refine lv_iload_n hx hb dX3_tick_100 rfl (lv_at hl 2 rfl) ?_
      obtain ⟨g9, h⟩ := h
      refine va_iald hx hb hK hP 5 0 rfl rfl g9 dX3_tick_101 ?_
      refine lv_if_ne (tgt := 110) hx hb dX3_tick_102 (by decide) (fun c102 => ?_) (fun c102 => ?_)
      · have h := h.2 c102
        exact zW_vret C (mo_.1, mo_.2.1, mo_.2.2.1, mo_.2.2.2.1, mo_.2.2.2.2.1, mo_.2.2.2.2.2.1, mo_.2.2.2.2.2.2.1, mo_.2.2.2.2.2.2.2.1, mo_.2.2.2.2.2.2.2.2.1, mo_.2.2.2.2.2.2.2.2.2.1, (upd (upd mo_.2.2.2.2.2.2.2.2.2.2.1 (8 + p0).toNatClampNeg 2) (28 + p0).toNatClampNeg (mo_.2.2.2.2.2.2.2.1 p0.toNatClampNeg)), mo_.2.2.2.2.2.2.2.2.2.2.2) rfl h hP hD hS (Nat.le_of_ble_eq_true rfl) (Nat.le_of_ble_eq_true rfl) dX3_tick_110
      · have h := h.1 c102
        refine lv_aload_n hx hb dX3_tick_105 rfl (lv_at hl 1 rfl) ?_
        refine lv_iload_n hx hb dX3_tick_106 rfl (lv_at hl 2 rfl) ?_
        refine z_WV (As := [.int p0]) (rest := []) (wr := ([] : va_W)) (wN := (fun u : MS => wM cI mA u)) [0, 1, 2, 3, 4, 5, 6, 7, 8, 9] [] [0, 1, 2, 3, 4, 5, 6, 7, 8, 9] C hG hA hP hD hS (c_X3_fail hfl hs0 D cI cB cJ mA (mo_.1, mo_.2.1, mo_.2.2.1, mo_.2.2.2.1, mo_.2.2.2.2.1, mo_.2.2.2.2.2.1, mo_.2.2.2.2.2.2.1, mo_.2.2.2.2.2.2.2.1, mo_.2.2.2.2.2.2.2.2.1, mo_.2.2.2.2.2.2.2.2.2.1, (upd (upd mo_.2.2.2.2.2.2.2.2.2.2.1 (8 + p0).toNatClampNeg 2) (28 + p0).toNatClampNeg (mo_.2.2.2.2.2.2.2.1 p0.toNatClampNeg)), mo_.2.2.2.2.2.2.2.2.2.2.2) p0 h) q106 v_X3_fail rfl rfl ⟨by decide, by decide, by decide⟩ (by decide) (fun _ => rfl) rfl rfl rfl ⟨(Nat.le_of_ble_eq_true rfl), (Nat.le_of_ble_eq_true rfl)⟩ ⟨(Nat.le_of_ble_eq_true rfl), (Nat.le_of_ble_eq_true rfl)⟩ hl.1 rfl (lv_room (Nat.le_of_ble_eq_true rfl)) dX3_tick_107 (fun u H locs h hP hD hS => ?_)
        obtain ⟨mo107, rfl⟩ : ∃ z, z = u := ⟨_, rfl⟩
        have hP : va_P D vwCl (wM cI mA mo107) H := hP
        have hD : va_D A (wM cI mA mo107) := hD
        exact zW_vret C mo107 rfl h hP hD hS (Nat.le_of_ble_eq_true rfl) (Nat.le_of_ble_eq_true rfl) dX3_tick_110
  unfold wpX3_tick at h
  refine lv_aload_n hx hb dX3_tick_0 rfl (lv_at hl 0 rfl) ?_
  refine z_get C f_X3_31 hP (q0 := 0) rfl rfl dX3_tick_1 ?_
  refine lv_bipush (v := 48) hx hb dX3_tick_4 (by decide) ?_
  refine lv_iload_n hx hb dX3_tick_6 rfl (lv_at hl 1 rfl) ?_
  refine lv_iadd hx hb dX3_tick_7 ?_
  obtain ⟨g9, h⟩ := h
  refine va_iald hx hb hK hP 8 0 rfl rfl g9 dX3_tick_8 ?_
  refine lv_if_le (tgt := 26) hx hb dX3_tick_9 (by decide) (fun c9 => ?_) (fun c9 => ?_)
  · have h := h.1 c9
    refine lv_aload_n hx hb dX3_tick_26 rfl (lv_at hl 0 rfl) ?_
    refine z_get C f_X3_31 hP (q0 := 0) rfl rfl dX3_tick_27 ?_
    refine lv_bipush (v := 28) hx hb dX3_tick_30 (by decide) ?_
    refine lv_iload_n hx hb dX3_tick_32 rfl (lv_at hl 1 rfl) ?_
    refine lv_iadd hx hb dX3_tick_33 ?_
    refine lv_dup2_11 hx hb dX3_tick_34 rfl rfl ?_
    obtain ⟨g9, h⟩ := h
    refine va_iald hx hb hK hP 8 0 rfl rfl g9 dX3_tick_35 ?_
    refine lv_iconst (v := 1) hx hb dX3_tick_36 (by decide) ?_
    refine lv_isub hx hb dX3_tick_37 ?_
    obtain ⟨g9, h⟩ := h
    refine va_iast hx hb hK hP hD hS 8 0 rfl rfl g9 dX3_tick_38 (fun H locs hP hD hS => ?_)
    have hP : va_P D vwCl (wM cI mA (mo.1, mo.2.1, mo.2.2.1, mo.2.2.2.1, mo.2.2.2.2.1, mo.2.2.2.2.2.1, mo.2.2.2.2.2.2.1, mo.2.2.2.2.2.2.2.1, mo.2.2.2.2.2.2.2.2.1, mo.2.2.2.2.2.2.2.2.2.1, (upd mo.2.2.2.2.2.2.2.2.2.2.1 (28 + p0).toNatClampNeg ((mo.2.2.2.2.2.2.2.2.2.2.1 (28 + p0).toNatClampNeg) - 1)), mo.2.2.2.2.2.2.2.2.2.2.2)) H := hP
    have hD : va_D A (wM cI mA (mo.1, mo.2.1, mo.2.2.1, mo.2.2.2.1, mo.2.2.2.2.1, mo.2.2.2.2.2.1, mo.2.2.2.2.2.2.1, mo.2.2.2.2.2.2.2.1, mo.2.2.2.2.2.2.2.2.1, mo.2.2.2.2.2.2.2.2.2.1, (upd mo.2.2.2.2.2.2.2.2.2.2.1 (28 + p0).toNatClampNeg ((mo.2.2.2.2.2.2.2.2.2.2.1 (28 + p0).toNatClampNeg) - 1)), mo.2.2.2.2.2.2.2.2.2.2.2)) := hD
    refine lv_aload_n hx hb dX3_tick_39 rfl (lv_at hl 0 rfl) ?_
    refine z_get C f_X3_31 hP (q0 := 0) rfl rfl dX3_tick_40 ?_
    refine lv_bipush (v := 28) hx hb dX3_tick_43 (by decide) ?_
    refine lv_iload_n hx hb dX3_tick_45 rfl (lv_at hl 1 rfl) ?_
    refine lv_iadd hx hb dX3_tick_46 ?_
    obtain ⟨g9, h⟩ := h
    refine va_iald hx hb hK hP 8 0 rfl rfl g9 dX3_tick_47 ?_
    refine lv_if_le (tgt := 52) hx hb dX3_tick_48 (by decide) (fun c48 => ?_) (fun c48 => ?_)
    · have h := h.1 c48
      refine lv_aload_n hx hb dX3_tick_52 rfl (lv_at hl 0 rfl) ?_
      refine lv_iload_n hx hb dX3_tick_53 rfl (lv_at hl 1 rfl) ?_
      refine z_RV (As := [.int p0]) (rest := []) [0, 1, 2, 3, 4, 5, 6, 7, 8, 9] C (hG.kept hS.1 hS.2.1).none hP (c_X3_state hfl hs0 D cI cB cJ mA (mo.1, mo.2.1, mo.2.2.1, mo.2.2.2.1, mo.2.2.2.2.1, mo.2.2.2.2.2.1, mo.2.2.2.2.2.2.1, mo.2.2.2.2.2.2.2.1, mo.2.2.2.2.2.2.2.2.1, mo.2.2.2.2.2.2.2.2.2.1, (upd mo.2.2.2.2.2.2.2.2.2.2.1 (28 + p0).toNatClampNeg ((mo.2.2.2.2.2.2.2.2.2.2.1 (28 + p0).toNatClampNeg) - 1)), mo.2.2.2.2.2.2.2.2.2.2.2) p0 h) q74 v_X3_state rfl rfl rfl rfl ⟨(Nat.le_of_ble_eq_true rfl), (Nat.le_of_ble_eq_true rfl)⟩ ⟨(Nat.le_of_ble_eq_true rfl), (Nat.le_of_ble_eq_true rfl)⟩ hl.1 rfl (lv_room (Nat.le_of_ble_eq_true rfl)) dX3_tick_54 (fun r54 h => ?_)
      refine lv_iconst (v := 2) hx hb dX3_tick_57 (by decide) ?_
      refine lv_icmp_ne (tgt := 65) hx hb dX3_tick_58 (by decide) (fun c58 => ?_) (fun c58 => ?_)
      · have h := h.2 c58
        refine lv_iconst (v := 0) hx hb dX3_tick_65 (by decide) ?_
        refine W.widen (k := 0) (n := 0) (Nat.le_of_ble_eq_true rfl) (Nat.le_of_ble_eq_true rfl) ?_
        exact k66 0 (mo.1, mo.2.1, mo.2.2.1, mo.2.2.2.1, mo.2.2.2.2.1, mo.2.2.2.2.2.1, mo.2.2.2.2.2.2.1, mo.2.2.2.2.2.2.2.1, mo.2.2.2.2.2.2.2.2.1, mo.2.2.2.2.2.2.2.2.2.1, (upd mo.2.2.2.2.2.2.2.2.2.2.1 (28 + p0).toNatClampNeg ((mo.2.2.2.2.2.2.2.2.2.2.1 (28 + p0).toNatClampNeg) - 1)), mo.2.2.2.2.2.2.2.2.2.2.2)  _ _ hP hD hS _ (lv_sub hl [0, 1] rfl) h
      · have h := h.1 c58
        refine lv_iconst (v := 1) hx hb dX3_tick_61 (by decide) ?_
        refine lv_goto (tgt := 66) hx hb dX3_tick_62 (by decide) ?_
        refine W.widen (k := 0) (n := 0) (Nat.le_of_ble_eq_true rfl) (Nat.le_of_ble_eq_true rfl) ?_
        exact k66 1 (mo.1, mo.2.1, mo.2.2.1, mo.2.2.2.1, mo.2.2.2.2.1, mo.2.2.2.2.2.1, mo.2.2.2.2.2.2.1, mo.2.2.2.2.2.2.2.1, mo.2.2.2.2.2.2.2.2.1, mo.2.2.2.2.2.2.2.2.2.1, (upd mo.2.2.2.2.2.2.2.2.2.2.1 (28 + p0).toNatClampNeg ((mo.2.2.2.2.2.2.2.2.2.2.1 (28 + p0).toNatClampNeg) - 1)), mo.2.2.2.2.2.2.2.2.2.2.2)  _ _ hP hD hS _ (lv_sub hl [0, 1] rfl) h
    · have h := h.2 c48
      exact zW_vret C (mo.1, mo.2.1, mo.2.2.1, mo.2.2.2.1, mo.2.2.2.2.1, mo.2.2.2.2.2.1, mo.2.2.2.2.2.2.1, mo.2.2.2.2.2.2.2.1, mo.2.2.2.2.2.2.2.2.1, mo.2.2.2.2.2.2.2.2.2.1, (upd mo.2.2.2.2.2.2.2.2.2.2.1 (28 + p0).toNatClampNeg ((mo.2.2.2.2.2.2.2.2.2.2.1 (28 + p0).toNatClampNeg) - 1)), mo.2.2.2.2.2.2.2.2.2.2.2) rfl h hP hD hS (Nat.le_of_ble_eq_true rfl) (Nat.le_of_ble_eq_true rfl) dX3_tick_51
  · have h := h.2 c9
    refine lv_aload_n hx hb dX3_tick_12 rfl (lv_at hl 0 rfl) ?_
    refine z_get C f_X3_31 hP (q0 := 0) rfl rfl dX3_tick_13 ?_
    refine lv_bipush (v := 48) hx hb dX3_tick_16 (by decide) ?_
    refine lv_iload_n hx hb dX3_tick_18 rfl (lv_at hl 1 rfl) ?_
    refine lv_iadd hx hb dX3_tick_19 ?_
    refine lv_dup2_11 hx hb dX3_tick_20 rfl rfl ?_
    obtain ⟨g9, h⟩ := h
    refine va_iald hx hb hK hP 8 0 rfl rfl g9 dX3_tick_21 ?_
    refine lv_iconst (v := 1) hx hb dX3_tick_22 (by decide) ?_
    refine lv_isub hx hb dX3_tick_23 ?_
    obtain ⟨g9, h⟩ := h
    refine va_iast hx hb hK hP hD hS 8 0 rfl rfl g9 dX3_tick_24 (fun H locs hP hD hS => ?_)
    have hP : va_P D vwCl (wM cI mA (mo.1, mo.2.1, mo.2.2.1, mo.2.2.2.1, mo.2.2.2.2.1, mo.2.2.2.2.2.1, mo.2.2.2.2.2.2.1, mo.2.2.2.2.2.2.2.1, mo.2.2.2.2.2.2.2.2.1, mo.2.2.2.2.2.2.2.2.2.1, (upd mo.2.2.2.2.2.2.2.2.2.2.1 (48 + p0).toNatClampNeg ((mo.2.2.2.2.2.2.2.2.2.2.1 (48 + p0).toNatClampNeg) - 1)), mo.2.2.2.2.2.2.2.2.2.2.2)) H := hP
    have hD : va_D A (wM cI mA (mo.1, mo.2.1, mo.2.2.1, mo.2.2.2.1, mo.2.2.2.2.1, mo.2.2.2.2.2.1, mo.2.2.2.2.2.2.1, mo.2.2.2.2.2.2.2.1, mo.2.2.2.2.2.2.2.2.1, mo.2.2.2.2.2.2.2.2.2.1, (upd mo.2.2.2.2.2.2.2.2.2.2.1 (48 + p0).toNatClampNeg ((mo.2.2.2.2.2.2.2.2.2.2.1 (48 + p0).toNatClampNeg) - 1)), mo.2.2.2.2.2.2.2.2.2.2.2)) := hD
    exact zW_vret C (mo.1, mo.2.1, mo.2.2.1, mo.2.2.2.1, mo.2.2.2.2.1, mo.2.2.2.2.2.1, mo.2.2.2.2.2.2.1, mo.2.2.2.2.2.2.2.1, mo.2.2.2.2.2.2.2.2.1, mo.2.2.2.2.2.2.2.2.2.1, (upd mo.2.2.2.2.2.2.2.2.2.2.1 (48 + p0).toNatClampNeg ((mo.2.2.2.2.2.2.2.2.2.2.1 (48 + p0).toNatClampNeg) - 1)), mo.2.2.2.2.2.2.2.2.2.2.2) rfl h hP hD hS (Nat.le_of_ble_eq_true rfl) (Nat.le_of_ble_eq_true rfl) dX3_tick_25
def wpX3_dayOn_b23 (post : MS → Prop) (K2 : Int32 → MS → Prop) (x1 : Int32) (mo_ : MS) : Prop := K2 (x1 + 1) mo_
def wpX3_dayOn_b2 (post : MS → Prop) : Nat → Int32 → MS → Prop
  | 0, _, _ => False
  | n + 1, x1, mo_ => (mo_.2.2.1 ≤ x1 → vp_in 0 68 ∧ (vp_in 0 68 ∧ (post (mo_.1, mo_.2.1, mo_.2.2.1, mo_.2.2.2.1, mo_.2.2.2.2.1, mo_.2.2.2.2.2.1, mo_.2.2.2.2.2.2.1, mo_.2.2.2.2.2.2.2.1, mo_.2.2.2.2.2.2.2.2.1, mo_.2.2.2.2.2.2.2.2.2.1, (upd mo_.2.2.2.2.2.2.2.2.2.2.1 (0 : Int32).toNatClampNeg ((mo_.2.2.2.2.2.2.2.2.2.2.1 (0 : Int32).toNatClampNeg) + 1)), mo_.2.2.2.2.2.2.2.2.2.2.2)))) ∧ (¬ mo_.2.2.1 ≤ x1 → wpX3_isOpen (fun r12 => (r12 = 0 → wpX3_dayOn_b23 post (fun z0 z1 => wpX3_dayOn_b2 post n z0 z1) x1 mo_) ∧ (¬ r12 = 0 → wpX3_tick (fun mo20 => wpX3_dayOn_b23 post (fun z0 z1 => wpX3_dayOn_b2 post n z0 z1) x1 mo20) mo_ x1)) mo_ x1)
def wpX3_dayOn (post : MS → Prop) (mo : MS) : Prop := ∃ n2 : Nat, wpX3_dayOn_b2 post n2 0 mo
set_option maxHeartbeats 4000000 in
set_option maxRecDepth 100000 in
theorem c_X3_dayOn {l : Launch} (hfl : l.stackTraces = false) {s0 : State} (hs0 : zS s0) (D : va_G) (cI cB cJ : ClassId) (mA : Nat → Nat) (mo : MS) {post : MS → Prop} (h : wpX3_dayOn post mo) : zW s0 l D (zty cI cB cJ) yX3_dayOn cX3_dayOn 2 none 5 0 0 [.ref (mA 0)] (wM cI mA mo) (fun _ : MS => none) (fun u : MS => post u) (fun u : MS => wM cI mA u) := by
  refine zW_intro (by decide +kernel) (Nat.le_of_ble_eq_true rfl) ?_
  intro p e s m below meth c A C hnm hA hG hP hD hS ls hl
  have C : zC D (zty cI cB cJ) p s m ([.ref (mA 0)] : List Value).toArray meth c cX3_dayOn RX3 none 2 := C
  have hx := C.1
  have hb := C.2.1
  have hts := C.2.2.1
  have hown := C.2.2.2.1
  have hml := C.2.2.2.2.2.1
  have hK := C.2.2.2.2.2.2.2
  have hl : lv_has ls 2 [(0, .ref (mA 0))] := hl
  have hP : va_P D vwCl (wM cI mA mo) s.heap := hP
  have hD : va_D A (wM cI mA mo) := hD
  have k23 : ∀ (K2 : Int32 → MS → Prop) (hK2 : ∀ (x1 : Int32) (mo_ : MS) (H : Heap) (locs : List Loc), va_P D vwCl (wM cI mA mo_) H → va_D A (wM cI mA mo_) → va_S A s.heap H locs → ∀ (ls : Array Slot), lv_has ls 2 [(0, .ref (mA 0)), (1, .int x1)] → K2 x1 mo_ → W p l e (zr 5 0 0) s m ([.ref (mA 0)] : List Value).toArray below meth c H locs 0 0 (MQ below (zQ D (fun _ : MS => none) (fun u : MS => post u) (fun u : MS => wM cI mA u) A) ([.ref (mA 0)] : List Value).toArray s 0 0 A) (F0 m 2 ls [])), ∀ (x1 : Int32) (mo_ : MS) (H : Heap) (locs : List Loc), va_P D vwCl (wM cI mA mo_) H → va_D A (wM cI mA mo_) → va_S A s.heap H locs → ∀ (ls : Array Slot), lv_has ls 2 [(0, .ref (mA 0)), (1, .int x1)] → wpX3_dayOn_b23 post K2 x1 mo_ → W p l e (zr 5 0 0) s m ([.ref (mA 0)] : List Value).toArray below meth c H locs 0 0 (MQ below (zQ D (fun _ : MS => none) (fun u : MS => post u) (fun u : MS => wM cI mA u) A) ([.ref (mA 0)] : List Value).toArray s 0 0 A) (F0 m 23 ls []) := by
    intro K2 hK2
    intro x1 mo_ H locs hP hD hS ls hl h
    unfold wpX3_dayOn_b23 at h
    refine lv_iinc (v := (x1 + 1)) (lv' := [(1, .int (x1 + 1)), (0, .ref (mA 0))]) hx hb dX3_dayOn_23 hl (k := 1) rfl (by first | rfl | decide) (by decide) rfl (fun ls hl => ?_)
    refine lv_goto (tgt := 2) hx hb dX3_dayOn_26 (by decide) ?_
    refine W.widen (k := 0) (n := 0) (Nat.le_of_ble_eq_true rfl) (Nat.le_of_ble_eq_true rfl) ?_
    exact hK2 (x1 + 1) mo_  _ _ hP hD hS _ (lv_sub hl [1, 0] rfl) h
  have k2 : ∀ (n : Nat) (x1 : Int32) (mo_ : MS) (H : Heap) (locs : List Loc), va_P D vwCl (wM cI mA mo_) H → va_D A (wM cI mA mo_) → va_S A s.heap H locs → ∀ (ls : Array Slot), lv_has ls 2 [(0, .ref (mA 0)), (1, .int x1)] → wpX3_dayOn_b2 post n x1 mo_ → W p l e (zr 5 0 0) s m ([.ref (mA 0)] : List Value).toArray below meth c H locs 0 0 (MQ below (zQ D (fun _ : MS => none) (fun u : MS => post u) (fun u : MS => wM cI mA u) A) ([.ref (mA 0)] : List Value).toArray s 0 0 A) (F0 m 2 ls []) := by
    intro n
    induction n with
    | zero =>
      intro x1 mo_ H locs hP hD hS ls hl h
      exact h.elim
    | succ n ih =>
      intro x1 mo_ H locs hP hD hS ls hl h
      rw [wpX3_dayOn_b2] at h
      refine lv_iload_n hx hb dX3_dayOn_2 rfl (lv_at hl 1 rfl) ?_
      refine lv_aload_n hx hb dX3_dayOn_3 rfl (lv_at hl 0 rfl) ?_
      refine z_get C f_X3_55 hP (q0 := 0) rfl rfl dX3_dayOn_4 ?_
      refine lv_icmp_ge (tgt := 29) hx hb dX3_dayOn_7 (by decide) (fun c7 => ?_) (fun c7 => ?_)
      · have h := h.1 c7
        refine lv_aload_n hx hb dX3_dayOn_29 rfl (lv_at hl 0 rfl) ?_
        refine z_get C f_X3_31 hP (q0 := 0) rfl rfl dX3_dayOn_30 ?_
        refine lv_iconst (v := 0) hx hb dX3_dayOn_33 (by decide) ?_
        refine lv_dup2_11 hx hb dX3_dayOn_34 rfl rfl ?_
        obtain ⟨g9, h⟩ := h
        refine va_iald hx hb hK hP 8 0 rfl rfl g9 dX3_dayOn_35 ?_
        refine lv_iconst (v := 1) hx hb dX3_dayOn_36 (by decide) ?_
        refine lv_iadd hx hb dX3_dayOn_37 ?_
        obtain ⟨g9, h⟩ := h
        refine va_iast hx hb hK hP hD hS 8 0 rfl rfl g9 dX3_dayOn_38 (fun H locs hP hD hS => ?_)
        have hP : va_P D vwCl (wM cI mA (mo_.1, mo_.2.1, mo_.2.2.1, mo_.2.2.2.1, mo_.2.2.2.2.1, mo_.2.2.2.2.2.1, mo_.2.2.2.2.2.2.1, mo_.2.2.2.2.2.2.2.1, mo_.2.2.2.2.2.2.2.2.1, mo_.2.2.2.2.2.2.2.2.2.1, (upd mo_.2.2.2.2.2.2.2.2.2.2.1 (0 : Int32).toNatClampNeg ((mo_.2.2.2.2.2.2.2.2.2.2.1 (0 : Int32).toNatClampNeg) + 1)), mo_.2.2.2.2.2.2.2.2.2.2.2)) H := hP
        have hD : va_D A (wM cI mA (mo_.1, mo_.2.1, mo_.2.2.1, mo_.2.2.2.1, mo_.2.2.2.2.1, mo_.2.2.2.2.2.1, mo_.2.2.2.2.2.2.1, mo_.2.2.2.2.2.2.2.1, mo_.2.2.2.2.2.2.2.2.1, mo_.2.2.2.2.2.2.2.2.2.1, (upd mo_.2.2.2.2.2.2.2.2.2.2.1 (0 : Int32).toNatClampNeg ((mo_.2.2.2.2.2.2.2.2.2.2.1 (0 : Int32).toNatClampNeg) + 1)), mo_.2.2.2.2.2.2.2.2.2.2.2)) := hD
        exact zW_vret C (mo_.1, mo_.2.1, mo_.2.2.1, mo_.2.2.2.1, mo_.2.2.2.2.1, mo_.2.2.2.2.2.1, mo_.2.2.2.2.2.2.1, mo_.2.2.2.2.2.2.2.1, mo_.2.2.2.2.2.2.2.2.1, mo_.2.2.2.2.2.2.2.2.2.1, (upd mo_.2.2.2.2.2.2.2.2.2.2.1 (0 : Int32).toNatClampNeg ((mo_.2.2.2.2.2.2.2.2.2.2.1 (0 : Int32).toNatClampNeg) + 1)), mo_.2.2.2.2.2.2.2.2.2.2.2) rfl h hP hD hS (Nat.le_of_ble_eq_true rfl) (Nat.le_of_ble_eq_true rfl) dX3_dayOn_39
      · have h := h.2 c7
        refine lv_aload_n hx hb dX3_dayOn_10 rfl (lv_at hl 0 rfl) ?_
        refine lv_iload_n hx hb dX3_dayOn_11 rfl (lv_at hl 1 rfl) ?_
        refine z_RV (As := [.int x1]) (rest := []) [0, 1, 2, 3, 4, 5, 6, 7, 8, 9] C (hG.kept hS.1 hS.2.1).none hP (c_X3_isOpen hfl hs0 D cI cB cJ mA mo_ x1 h) q110 v_X3_isOpen rfl rfl rfl rfl ⟨(Nat.le_of_ble_eq_true rfl), (Nat.le_of_ble_eq_true rfl)⟩ ⟨(Nat.le_of_ble_eq_true rfl), (Nat.le_of_ble_eq_true rfl)⟩ hl.1 rfl (lv_room (Nat.le_of_ble_eq_true rfl)) dX3_dayOn_12 (fun r12 h => ?_)
        refine lv_if_eq (tgt := 23) hx hb dX3_dayOn_15 (by decide) (fun c15 => ?_) (fun c15 => ?_)
        · have h := h.1 c15
          refine W.widen (k := 0) (n := 0) (Nat.le_of_ble_eq_true rfl) (Nat.le_of_ble_eq_true rfl) ?_
          exact k23 _ ih x1 mo_  _ _ hP hD hS _ (lv_sub hl [0, 1] rfl) h
        · have h := h.2 c15
          refine lv_aload_n hx hb dX3_dayOn_18 rfl (lv_at hl 0 rfl) ?_
          refine lv_iload_n hx hb dX3_dayOn_19 rfl (lv_at hl 1 rfl) ?_
          refine z_WV (As := [.int x1]) (rest := []) (wr := ([] : va_W)) (wN := (fun u : MS => wM cI mA u)) [0, 1, 2, 3, 4, 5, 6, 7, 8, 9] [] [0, 1, 2, 3, 4, 5, 6, 7, 8, 9] C hG hA hP hD hS (c_X3_tick hfl hs0 D cI cB cJ mA mo_ x1 h) q114 v_X3_tick rfl rfl ⟨by decide, by decide, by decide⟩ (by decide) (fun _ => rfl) rfl rfl rfl ⟨(Nat.le_of_ble_eq_true rfl), (Nat.le_of_ble_eq_true rfl)⟩ ⟨(Nat.le_of_ble_eq_true rfl), (Nat.le_of_ble_eq_true rfl)⟩ hl.1 rfl (lv_room (Nat.le_of_ble_eq_true rfl)) dX3_dayOn_20 (fun u H locs h hP hD hS => ?_)
          obtain ⟨mo20, rfl⟩ : ∃ z, z = u := ⟨_, rfl⟩
          have hP : va_P D vwCl (wM cI mA mo20) H := hP
          have hD : va_D A (wM cI mA mo20) := hD
          refine W.widen (k := 0) (n := 0) (Nat.le_of_ble_eq_true rfl) (Nat.le_of_ble_eq_true rfl) ?_
          exact k23 _ ih x1 mo20  _ _ hP hD hS _ (lv_sub hl [0, 1] rfl) h
  unfold wpX3_dayOn at h
  refine lv_iconst (v := 0) hx hb dX3_dayOn_0 (by decide) ?_
  refine lv_istore_n (lv' := [(1, .int 0), (0, .ref (mA 0))]) hx hb dX3_dayOn_1 rfl hl (by decide) rfl (fun ls hl => ?_)
  refine W.widen (k := 0) (n := 0) (Nat.le_of_ble_eq_true rfl) (Nat.le_of_ble_eq_true rfl) ?_
  obtain ⟨n9, h⟩ := h
  exact k2 n9 0 mo  _ _ hP hD hS _ (lv_sub hl [1, 0] rfl) h
def wpX3_daysOn_b2 (post : MS → Prop) (p0 : Int32) : Nat → Int32 → MS → Prop
  | 0, _, _ => False
  | n + 1, x2, mo_ => (p0 ≤ x2 → post mo_) ∧ (¬ p0 ≤ x2 → wpX3_dayOn (fun mo8 => wpX3_daysOn_b2 post p0 n (x2 + 1) mo8) mo_)
def wpX3_daysOn (post : MS → Prop) (mo : MS) (p0 : Int32) : Prop := ∃ n2 : Nat, wpX3_daysOn_b2 post p0 n2 0 mo
set_option maxHeartbeats 4000000 in
set_option maxRecDepth 100000 in
theorem c_X3_daysOn {l : Launch} (hfl : l.stackTraces = false) {s0 : State} (hs0 : zS s0) (D : va_G) (cI cB cJ : ClassId) (mA : Nat → Nat) (mo : MS) (p0 : Int32) {post : MS → Prop} (h : wpX3_daysOn post mo p0) : zW s0 l D (zty cI cB cJ) yX3_daysOn cX3_daysOn 3 none 6 0 0 [.ref (mA 0), .int p0] (wM cI mA mo) (fun _ : MS => none) (fun u : MS => post u) (fun u : MS => wM cI mA u) := by
  refine zW_intro (by decide +kernel) (Nat.le_of_ble_eq_true rfl) ?_
  intro p e s m below meth c A C hnm hA hG hP hD hS ls hl
  have C : zC D (zty cI cB cJ) p s m ([.ref (mA 0), .int p0] : List Value).toArray meth c cX3_daysOn RX3 none 3 := C
  have hx := C.1
  have hb := C.2.1
  have hts := C.2.2.1
  have hown := C.2.2.2.1
  have hml := C.2.2.2.2.2.1
  have hK := C.2.2.2.2.2.2.2
  have hl : lv_has ls 3 [(0, .ref (mA 0)), (1, .int p0)] := hl
  have hP : va_P D vwCl (wM cI mA mo) s.heap := hP
  have hD : va_D A (wM cI mA mo) := hD
  have k2 : ∀ (n : Nat) (x2 : Int32) (mo_ : MS) (H : Heap) (locs : List Loc), va_P D vwCl (wM cI mA mo_) H → va_D A (wM cI mA mo_) → va_S A s.heap H locs → ∀ (ls : Array Slot), lv_has ls 3 [(0, .ref (mA 0)), (1, .int p0), (2, .int x2)] → wpX3_daysOn_b2 post p0 n x2 mo_ → W p l e (zr 6 0 0) s m ([.ref (mA 0), .int p0] : List Value).toArray below meth c H locs 0 0 (MQ below (zQ D (fun _ : MS => none) (fun u : MS => post u) (fun u : MS => wM cI mA u) A) ([.ref (mA 0), .int p0] : List Value).toArray s 0 0 A) (F0 m 2 ls []) := by
    intro n
    induction n with
    | zero =>
      intro x2 mo_ H locs hP hD hS ls hl h
      exact h.elim
    | succ n ih =>
      intro x2 mo_ H locs hP hD hS ls hl h
      rw [wpX3_daysOn_b2] at h
      refine lv_iload_n hx hb dX3_daysOn_2 rfl (lv_at hl 2 rfl) ?_
      refine lv_iload_n hx hb dX3_daysOn_3 rfl (lv_at hl 1 rfl) ?_
      refine lv_icmp_ge (tgt := 17) hx hb dX3_daysOn_4 (by decide) (fun c4 => ?_) (fun c4 => ?_)
      · have h := h.1 c4
        exact zW_vret C mo_ rfl h hP hD hS (Nat.le_of_ble_eq_true rfl) (Nat.le_of_ble_eq_true rfl) dX3_daysOn_17
      · have h := h.2 c4
        refine lv_aload_n hx hb dX3_daysOn_7 rfl (lv_at hl 0 rfl) ?_
        refine z_WV (As := []) (rest := []) (wr := ([] : va_W)) (wN := (fun u : MS => wM cI mA u)) [0, 1, 2, 3, 4, 5, 6, 7, 8, 9] [] [0, 1, 2, 3, 4, 5, 6, 7, 8, 9] C hG hA hP hD hS (c_X3_dayOn hfl hs0 D cI cB cJ mA mo_ h) q118 v_X3_dayOn rfl rfl ⟨by decide, by decide, by decide⟩ (by decide) (fun _ => rfl) rfl rfl rfl ⟨(Nat.le_of_ble_eq_true rfl), (Nat.le_of_ble_eq_true rfl)⟩ ⟨(Nat.le_of_ble_eq_true rfl), (Nat.le_of_ble_eq_true rfl)⟩ hl.1 rfl (lv_room (Nat.le_of_ble_eq_true rfl)) dX3_daysOn_8 (fun u H locs h hP hD hS => ?_)
        obtain ⟨mo8, rfl⟩ : ∃ z, z = u := ⟨_, rfl⟩
        have hP : va_P D vwCl (wM cI mA mo8) H := hP
        have hD : va_D A (wM cI mA mo8) := hD
        refine lv_iinc (v := (x2 + 1)) (lv' := [(2, .int (x2 + 1)), (0, .ref (mA 0)), (1, .int p0)]) hx hb dX3_daysOn_11 hl (k := 2) rfl (by first | rfl | decide) (by decide) rfl (fun ls hl => ?_)
        refine lv_goto (tgt := 2) hx hb dX3_daysOn_14 (by decide) ?_
        refine W.widen (k := 0) (n := 0) (Nat.le_of_ble_eq_true rfl) (Nat.le_of_ble_eq_true rfl) ?_
        exact ih (x2 + 1) mo8  _ _ hP hD hS _ (lv_sub hl [1, 2, 0] rfl) h
  unfold wpX3_daysOn at h
  refine lv_iconst (v := 0) hx hb dX3_daysOn_0 (by decide) ?_
  refine lv_istore_n (lv' := [(2, .int 0), (0, .ref (mA 0)), (1, .int p0)]) hx hb dX3_daysOn_1 rfl hl (by decide) rfl (fun ls hl => ?_)
  refine W.widen (k := 0) (n := 0) (Nat.le_of_ble_eq_true rfl) (Nat.le_of_ble_eq_true rfl) ?_
  obtain ⟨n9, h⟩ := h
  exact k2 n9 0 mo  _ _ hP hD hS _ (lv_sub hl [1, 2, 0] rfl) h
def wpX3_count_b27 (post : Int32 → Prop) (mo : MS) (p0 : Int32) (K4 : Int32 → Int32 → Prop) (x3 : Int32) (y0 : Int32) (y1 : Int32) : Prop := K4 (y0 + y1) (x3 + 1)
def wpX3_count_b4 (post : Int32 → Prop) (mo : MS) (p0 : Int32) : Nat → Int32 → Int32 → Prop
  | 0, _, _ => False
  | n + 1, x2, x3 => (mo.2.2.1 ≤ x3 → post x2) ∧ (¬ mo.2.2.1 ≤ x3 → wpX3_state (fun r15 => (r15 = p0 → wpX3_count_b27 post mo p0 (fun z0 z1 => wpX3_count_b4 post mo p0 n z0 z1) x3 x2 1) ∧ (¬ r15 = p0 → wpX3_count_b27 post mo p0 (fun z0 z1 => wpX3_count_b4 post mo p0 n z0 z1) x3 x2 0)) mo x3)
def wpX3_count (post : Int32 → Prop) (mo : MS) (p0 : Int32) : Prop := ∃ n4 : Nat, wpX3_count_b4 post mo p0 n4 0 0
set_option maxHeartbeats 4000000 in
set_option maxRecDepth 100000 in
theorem c_X3_count {l : Launch} (hfl : l.stackTraces = false) {s0 : State} (hs0 : zS s0) (D : va_G) (cI cB cJ : ClassId) (mA : Nat → Nat) (mo : MS) (p0 : Int32) {post : Int32 → Prop} (h : wpX3_count post mo p0) : zR s0 l D (zty cI cB cJ) yX3_count cX3_count 4 (some .int) 2 [.ref (mA 0), .int p0] (wM cI mA mo) (fun u : Int32 => some (Value.int u)) (fun u : Int32 => post u) := by
  refine zR_intro (by decide +kernel) (Nat.le_of_ble_eq_true rfl) ?_
  intro p e s m below meth c C hP hG ls hl
  have C : zC D (zty cI cB cJ) p s m ([.ref (mA 0), .int p0] : List Value).toArray meth c cX3_count RX3 (some .int) 4 := C
  have hx := C.1
  have hb := C.2.1
  have hts := C.2.2.1
  have hown := C.2.2.2.1
  have hml := C.2.2.2.2.2.1
  have hK := C.2.2.2.2.2.2.2
  have hl : lv_has ls 4 [(0, .ref (mA 0)), (1, .int p0)] := hl
  have k27 : ∀ (K4 : Int32 → Int32 → Prop) (hK4 : ∀ (x2 : Int32) (x3 : Int32) (ls : Array Slot), lv_has ls 4 [(0, .ref (mA 0)), (1, .int p0), (2, .int x2), (3, .int x3)] → K4 x2 x3 → W p l e (zr 2 0 0) s m ([.ref (mA 0), .int p0] : List Value).toArray below meth c s.heap [] 0 0 (MQ below (zQr (fun u : Int32 => some (Value.int u)) (fun u : Int32 => post u)) ([.ref (mA 0), .int p0] : List Value).toArray s 0 0 (fun _ => False)) (F0 m 4 ls [])), ∀ (x3 : Int32) (y0 : Int32) (y1 : Int32) (ls : Array Slot), lv_has ls 4 [(0, .ref (mA 0)), (1, .int p0), (3, .int x3)] → wpX3_count_b27 post mo p0 K4 x3 y0 y1 → W p l e (zr 2 0 0) s m ([.ref (mA 0), .int p0] : List Value).toArray below meth c s.heap [] 0 0 (MQ below (zQr (fun u : Int32 => some (Value.int u)) (fun u : Int32 => post u)) ([.ref (mA 0), .int p0] : List Value).toArray s 0 0 (fun _ => False)) (F0 m 27 ls [.int y1, .int y0]) := by
    intro K4 hK4
    intro x3 y0 y1 ls hl h
    unfold wpX3_count_b27 at h
    refine lv_iadd hx hb dX3_count_27 ?_
    refine lv_istore_n (lv' := [(2, .int (y0 + y1)), (0, .ref (mA 0)), (1, .int p0), (3, .int x3)]) hx hb dX3_count_28 rfl hl (by decide) rfl (fun ls hl => ?_)
    refine lv_iinc (v := (x3 + 1)) (lv' := [(3, .int (x3 + 1)), (2, .int (y0 + y1)), (0, .ref (mA 0)), (1, .int p0)]) hx hb dX3_count_29 hl (k := 3) rfl (by first | rfl | decide) (by decide) rfl (fun ls hl => ?_)
    refine lv_goto (tgt := 4) hx hb dX3_count_32 (by decide) ?_
    exact hK4 (y0 + y1) (x3 + 1)  _ (lv_sub hl [2, 3, 1, 0] rfl) h
  have k4 : ∀ (n : Nat) (x2 : Int32) (x3 : Int32) (ls : Array Slot), lv_has ls 4 [(0, .ref (mA 0)), (1, .int p0), (2, .int x2), (3, .int x3)] → wpX3_count_b4 post mo p0 n x2 x3 → W p l e (zr 2 0 0) s m ([.ref (mA 0), .int p0] : List Value).toArray below meth c s.heap [] 0 0 (MQ below (zQr (fun u : Int32 => some (Value.int u)) (fun u : Int32 => post u)) ([.ref (mA 0), .int p0] : List Value).toArray s 0 0 (fun _ => False)) (F0 m 4 ls []) := by
    intro n
    induction n with
    | zero =>
      intro x2 x3 ls hl h
      exact h.elim
    | succ n ih =>
      intro x2 x3 ls hl h
      rw [wpX3_count_b4] at h
      refine lv_iload_n hx hb dX3_count_4 rfl (lv_at hl 3 rfl) ?_
      refine lv_aload_n hx hb dX3_count_5 rfl (lv_at hl 0 rfl) ?_
      refine z_get C f_X3_55 hP (q0 := 0) rfl rfl dX3_count_6 ?_
      refine lv_icmp_ge (tgt := 35) hx hb dX3_count_9 (by decide) (fun c9 => ?_) (fun c9 => ?_)
      · have h := h.1 c9
        refine lv_iload_n hx hb dX3_count_35 rfl (lv_at hl 2 rfl) ?_
        exact zR_iret C x2 rfl h dX3_count_36
      · have h := h.2 c9
        refine lv_iload_n hx hb dX3_count_12 rfl (lv_at hl 2 rfl) ?_
        refine lv_aload_n hx hb dX3_count_13 rfl (lv_at hl 0 rfl) ?_
        refine lv_iload_n hx hb dX3_count_14 rfl (lv_at hl 3 rfl) ?_
        refine z_RV (As := [.int x3]) (rest := [.int x2]) [0, 1, 2, 3, 4, 5, 6, 7, 8, 9] C hG hP (c_X3_state hfl hs0 D cI cB cJ mA mo x3 h) q74 v_X3_state rfl rfl rfl rfl ⟨(Nat.le_of_ble_eq_true rfl), (Nat.le_of_ble_eq_true rfl)⟩ ⟨(Nat.le_of_ble_eq_true rfl), (Nat.le_of_ble_eq_true rfl)⟩ hl.1 rfl (lv_room (Nat.le_of_ble_eq_true rfl)) dX3_count_15 (fun r15 h => ?_)
        refine lv_iload_n hx hb dX3_count_18 rfl (lv_at hl 1 rfl) ?_
        refine lv_icmp_ne (tgt := 26) hx hb dX3_count_19 (by decide) (fun c19 => ?_) (fun c19 => ?_)
        · have h := h.2 c19
          refine lv_iconst (v := 0) hx hb dX3_count_26 (by decide) ?_
          exact k27 _ ih x3 x2 0  _ (lv_sub hl [0, 1, 3] rfl) h
        · have h := h.1 c19
          refine lv_iconst (v := 1) hx hb dX3_count_22 (by decide) ?_
          refine lv_goto (tgt := 27) hx hb dX3_count_23 (by decide) ?_
          exact k27 _ ih x3 x2 1  _ (lv_sub hl [0, 1, 3] rfl) h
  unfold wpX3_count at h
  refine lv_iconst (v := 0) hx hb dX3_count_0 (by decide) ?_
  refine lv_istore_n (lv' := [(2, .int 0), (0, .ref (mA 0)), (1, .int p0)]) hx hb dX3_count_1 rfl hl (by decide) rfl (fun ls hl => ?_)
  refine lv_iconst (v := 0) hx hb dX3_count_2 (by decide) ?_
  refine lv_istore_n (lv' := [(3, .int 0), (2, .int 0), (0, .ref (mA 0)), (1, .int p0)]) hx hb dX3_count_3 rfl hl (by decide) rfl (fun ls hl => ?_)
  obtain ⟨n9, h⟩ := h
  exact k4 n9 0 0  _ (lv_sub hl [2, 3, 1, 0] rfl) h
def wpX3_addParty (post : Int32 → MS → Prop) (mo : MS) (p0 : Int32) : Prop := wpX3_isFrom (fun r10 => (r10 = 0 → wpX3_no (fun r18 mo18 => post r18 mo18) (0, mo.2.1, mo.2.2.1, mo.2.2.2.1, mo.2.2.2.2.1, mo.2.2.2.2.2.1, mo.2.2.2.2.2.2.1, mo.2.2.2.2.2.2.2.1, mo.2.2.2.2.2.2.2.2.1, mo.2.2.2.2.2.2.2.2.2.1, mo.2.2.2.2.2.2.2.2.2.2.1, mo.2.2.2.2.2.2.2.2.2.2.2) 1) ∧ (¬ r10 = 0 → (mo.2.1 = 6 → wpX3_no (fun r33 mo33 => post r33 mo33) (0, mo.2.1, mo.2.2.1, mo.2.2.2.1, mo.2.2.2.2.1, mo.2.2.2.2.2.1, mo.2.2.2.2.2.2.1, mo.2.2.2.2.2.2.2.1, mo.2.2.2.2.2.2.2.2.1, mo.2.2.2.2.2.2.2.2.2.1, mo.2.2.2.2.2.2.2.2.2.2.1, mo.2.2.2.2.2.2.2.2.2.2.2) 2) ∧ (¬ mo.2.1 = 6 → vp_in (2 + mo.2.1) 68 ∧ (post ((mo.2.1 + 1) - 1) (0, (mo.2.1 + 1), mo.2.2.1, mo.2.2.2.1, mo.2.2.2.2.1, mo.2.2.2.2.2.1, mo.2.2.2.2.2.2.1, mo.2.2.2.2.2.2.2.1, mo.2.2.2.2.2.2.2.2.1, mo.2.2.2.2.2.2.2.2.2.1, (upd mo.2.2.2.2.2.2.2.2.2.2.1 (2 + mo.2.1).toNatClampNeg p0), mo.2.2.2.2.2.2.2.2.2.2.2))))) p0 0 500
set_option maxHeartbeats 4000000 in
set_option maxRecDepth 100000 in
theorem c_X3_addParty {l : Launch} (hfl : l.stackTraces = false) {s0 : State} (hs0 : zS s0) (D : va_G) (cI cB cJ : ClassId) (mA : Nat → Nat) (mo : MS) (p0 : Int32) {post : Int32 → MS → Prop} (h : wpX3_addParty post mo p0) : zW s0 l D (zty cI cB cJ) yX3_addParty cX3_addParty 2 (some .int) 2 0 0 [.ref (mA 0), .int p0] (wM cI mA mo) (fun u : Int32 × MS => some (Value.int u.1)) (fun u : Int32 × MS => post u.1 u.2) (fun u : Int32 × MS => wM cI mA u.2) := by
  refine zW_intro (by decide +kernel) (Nat.le_of_ble_eq_true rfl) ?_
  intro p e s m below meth c A C hnm hA hG hP hD hS ls hl
  have C : zC D (zty cI cB cJ) p s m ([.ref (mA 0), .int p0] : List Value).toArray meth c cX3_addParty RX3 (some .int) 2 := C
  have hx := C.1
  have hb := C.2.1
  have hts := C.2.2.1
  have hown := C.2.2.2.1
  have hml := C.2.2.2.2.2.1
  have hK := C.2.2.2.2.2.2.2
  have hl : lv_has ls 2 [(0, .ref (mA 0)), (1, .int p0)] := hl
  have hP : va_P D vwCl (wM cI mA mo) s.heap := hP
  have hD : va_D A (wM cI mA mo) := hD
  unfold wpX3_addParty at h
  refine lv_aload_n hx hb dX3_addParty_0 rfl (lv_at hl 0 rfl) ?_
  refine lv_iconst (v := 0) hx hb dX3_addParty_1 (by decide) ?_
  refine z_put C f_X3_44 zt_X3 rfl rfl rfl rfl hP hD hS (q0 := 0) rfl (Nat.le_of_ble_eq_true rfl) dX3_addParty_2 (fun H locs hP hD hS => ?_)
  have hP : va_P D vwCl (wM cI mA (0, mo.2.1, mo.2.2.1, mo.2.2.2.1, mo.2.2.2.2.1, mo.2.2.2.2.2.1, mo.2.2.2.2.2.2.1, mo.2.2.2.2.2.2.2.1, mo.2.2.2.2.2.2.2.2.1, mo.2.2.2.2.2.2.2.2.2.1, mo.2.2.2.2.2.2.2.2.2.2.1, mo.2.2.2.2.2.2.2.2.2.2.2)) H := hP
  have hD : va_D A (wM cI mA (0, mo.2.1, mo.2.2.1, mo.2.2.2.1, mo.2.2.2.2.1, mo.2.2.2.2.2.1, mo.2.2.2.2.2.2.1, mo.2.2.2.2.2.2.2.1, mo.2.2.2.2.2.2.2.2.1, mo.2.2.2.2.2.2.2.2.2.1, mo.2.2.2.2.2.2.2.2.2.2.1, mo.2.2.2.2.2.2.2.2.2.2.2)) := hD
  refine lv_iload_n hx hb dX3_addParty_5 rfl (lv_at hl 1 rfl) ?_
  refine lv_iconst (v := 0) hx hb dX3_addParty_6 (by decide) ?_
  refine lv_sipush (v := 500) hx hb dX3_addParty_7 (by decide) ?_
  refine z_RS (As := [.int p0, .int 0, .int 500]) (rest := []) [] C (hG.kept hS.1 hS.2.1).none hP (c_X3_isFrom hfl hs0 D cI cB cJ p0 0 500 h) q66 v_X3_isFrom rfl rfl ⟨(Nat.le_of_ble_eq_true rfl), (Nat.le_of_ble_eq_true rfl)⟩ ⟨(Nat.le_of_ble_eq_true rfl), (Nat.le_of_ble_eq_true rfl)⟩ hl.1 rfl (lv_room (Nat.le_of_ble_eq_true rfl)) dX3_addParty_10 (fun r10 h => ?_)
  refine lv_if_ne (tgt := 22) hx hb dX3_addParty_13 (by decide) (fun c13 => ?_) (fun c13 => ?_)
  · have h := h.2 c13
    refine lv_aload_n hx hb dX3_addParty_22 rfl (lv_at hl 0 rfl) ?_
    refine z_get C f_X3_48 hP (q0 := 0) rfl rfl dX3_addParty_23 ?_
    refine lv_bipush (v := 6) hx hb dX3_addParty_26 (by decide) ?_
    refine lv_icmp_ne (tgt := 37) hx hb dX3_addParty_28 (by decide) (fun c28 => ?_) (fun c28 => ?_)
    · have h := h.2 c28
      refine lv_aload_n hx hb dX3_addParty_37 rfl (lv_at hl 0 rfl) ?_
      refine z_get C f_X3_31 hP (q0 := 0) rfl rfl dX3_addParty_38 ?_
      refine lv_iconst (v := 2) hx hb dX3_addParty_41 (by decide) ?_
      refine lv_aload_n hx hb dX3_addParty_42 rfl (lv_at hl 0 rfl) ?_
      refine z_get C f_X3_48 hP (q0 := 0) rfl rfl dX3_addParty_43 ?_
      refine lv_iadd hx hb dX3_addParty_46 ?_
      refine lv_iload_n hx hb dX3_addParty_47 rfl (lv_at hl 1 rfl) ?_
      obtain ⟨g9, h⟩ := h
      refine va_iast hx hb hK hP hD hS 8 0 rfl rfl g9 dX3_addParty_48 (fun H locs hP hD hS => ?_)
      have hP : va_P D vwCl (wM cI mA (0, mo.2.1, mo.2.2.1, mo.2.2.2.1, mo.2.2.2.2.1, mo.2.2.2.2.2.1, mo.2.2.2.2.2.2.1, mo.2.2.2.2.2.2.2.1, mo.2.2.2.2.2.2.2.2.1, mo.2.2.2.2.2.2.2.2.2.1, (upd mo.2.2.2.2.2.2.2.2.2.2.1 (2 + mo.2.1).toNatClampNeg p0), mo.2.2.2.2.2.2.2.2.2.2.2)) H := hP
      have hD : va_D A (wM cI mA (0, mo.2.1, mo.2.2.1, mo.2.2.2.1, mo.2.2.2.2.1, mo.2.2.2.2.2.1, mo.2.2.2.2.2.2.1, mo.2.2.2.2.2.2.2.1, mo.2.2.2.2.2.2.2.2.1, mo.2.2.2.2.2.2.2.2.2.1, (upd mo.2.2.2.2.2.2.2.2.2.2.1 (2 + mo.2.1).toNatClampNeg p0), mo.2.2.2.2.2.2.2.2.2.2.2)) := hD
      refine lv_aload_n hx hb dX3_addParty_49 rfl (lv_at hl 0 rfl) ?_
      refine lv_dup hx hb dX3_addParty_50 rfl ?_
      refine z_get C f_X3_48 hP (q0 := 0) rfl rfl dX3_addParty_51 ?_
      refine lv_iconst (v := 1) hx hb dX3_addParty_54 (by decide) ?_
      refine lv_iadd hx hb dX3_addParty_55 ?_
      refine z_put C f_X3_48 zt_X3 rfl rfl rfl rfl hP hD hS (q0 := 0) rfl (Nat.le_of_ble_eq_true rfl) dX3_addParty_56 (fun H locs hP hD hS => ?_)
      have hP : va_P D vwCl (wM cI mA (0, (mo.2.1 + 1), mo.2.2.1, mo.2.2.2.1, mo.2.2.2.2.1, mo.2.2.2.2.2.1, mo.2.2.2.2.2.2.1, mo.2.2.2.2.2.2.2.1, mo.2.2.2.2.2.2.2.2.1, mo.2.2.2.2.2.2.2.2.2.1, (upd mo.2.2.2.2.2.2.2.2.2.2.1 (2 + mo.2.1).toNatClampNeg p0), mo.2.2.2.2.2.2.2.2.2.2.2)) H := hP
      have hD : va_D A (wM cI mA (0, (mo.2.1 + 1), mo.2.2.1, mo.2.2.2.1, mo.2.2.2.2.1, mo.2.2.2.2.2.1, mo.2.2.2.2.2.2.1, mo.2.2.2.2.2.2.2.1, mo.2.2.2.2.2.2.2.2.1, mo.2.2.2.2.2.2.2.2.2.1, (upd mo.2.2.2.2.2.2.2.2.2.2.1 (2 + mo.2.1).toNatClampNeg p0), mo.2.2.2.2.2.2.2.2.2.2.2)) := hD
      refine lv_aload_n hx hb dX3_addParty_59 rfl (lv_at hl 0 rfl) ?_
      refine z_get C f_X3_48 hP (q0 := 0) rfl rfl dX3_addParty_60 ?_
      refine lv_iconst (v := 1) hx hb dX3_addParty_63 (by decide) ?_
      refine lv_isub hx hb dX3_addParty_64 ?_
      exact zW_iret C (((mo.2.1 + 1) - 1), (0, (mo.2.1 + 1), mo.2.2.1, mo.2.2.2.1, mo.2.2.2.2.1, mo.2.2.2.2.2.1, mo.2.2.2.2.2.2.1, mo.2.2.2.2.2.2.2.1, mo.2.2.2.2.2.2.2.2.1, mo.2.2.2.2.2.2.2.2.2.1, (upd mo.2.2.2.2.2.2.2.2.2.2.1 (2 + mo.2.1).toNatClampNeg p0), mo.2.2.2.2.2.2.2.2.2.2.2)) rfl h hP hD hS (Nat.le_of_ble_eq_true rfl) (Nat.le_of_ble_eq_true rfl) dX3_addParty_65
    · have h := h.1 c28
      refine lv_aload_n hx hb dX3_addParty_31 rfl (lv_at hl 0 rfl) ?_
      refine lv_iconst (v := 2) hx hb dX3_addParty_32 (by decide) ?_
      refine z_WV (As := [.int 2]) (rest := []) (wr := ([] : va_W)) (wN := (fun u : Int32 × MS => wM cI mA u.2)) [0, 1, 2, 3, 4, 5, 6, 7, 8, 9] [] [0, 1, 2, 3, 4, 5, 6, 7, 8, 9] C hG hA hP hD hS (c_X3_no hfl hs0 D cI cB cJ mA (0, mo.2.1, mo.2.2.1, mo.2.2.2.1, mo.2.2.2.2.1, mo.2.2.2.2.2.1, mo.2.2.2.2.2.2.1, mo.2.2.2.2.2.2.2.1, mo.2.2.2.2.2.2.2.2.1, mo.2.2.2.2.2.2.2.2.2.1, mo.2.2.2.2.2.2.2.2.2.2.1, mo.2.2.2.2.2.2.2.2.2.2.2) 2 h) q122 v_X3_no rfl rfl ⟨by decide, by decide, by decide⟩ (by decide) (fun _ => rfl) rfl rfl rfl ⟨(Nat.le_of_ble_eq_true rfl), (Nat.le_of_ble_eq_true rfl)⟩ ⟨(Nat.le_of_ble_eq_true rfl), (Nat.le_of_ble_eq_true rfl)⟩ hl.1 rfl (lv_room (Nat.le_of_ble_eq_true rfl)) dX3_addParty_33 (fun u H locs h hP hD hS => ?_)
      obtain ⟨r33, mo33⟩ := u
      have hP : va_P D vwCl (wM cI mA mo33) H := hP
      have hD : va_D A (wM cI mA mo33) := hD
      exact zW_iret C (r33, mo33) rfl h hP hD hS (Nat.le_of_ble_eq_true rfl) (Nat.le_of_ble_eq_true rfl) dX3_addParty_36
  · have h := h.1 c13
    refine lv_aload_n hx hb dX3_addParty_16 rfl (lv_at hl 0 rfl) ?_
    refine lv_iconst (v := 1) hx hb dX3_addParty_17 (by decide) ?_
    refine z_WV (As := [.int 1]) (rest := []) (wr := ([] : va_W)) (wN := (fun u : Int32 × MS => wM cI mA u.2)) [0, 1, 2, 3, 4, 5, 6, 7, 8, 9] [] [0, 1, 2, 3, 4, 5, 6, 7, 8, 9] C hG hA hP hD hS (c_X3_no hfl hs0 D cI cB cJ mA (0, mo.2.1, mo.2.2.1, mo.2.2.2.1, mo.2.2.2.2.1, mo.2.2.2.2.2.1, mo.2.2.2.2.2.2.1, mo.2.2.2.2.2.2.2.1, mo.2.2.2.2.2.2.2.2.1, mo.2.2.2.2.2.2.2.2.2.1, mo.2.2.2.2.2.2.2.2.2.2.1, mo.2.2.2.2.2.2.2.2.2.2.2) 1 h) q122 v_X3_no rfl rfl ⟨by decide, by decide, by decide⟩ (by decide) (fun _ => rfl) rfl rfl rfl ⟨(Nat.le_of_ble_eq_true rfl), (Nat.le_of_ble_eq_true rfl)⟩ ⟨(Nat.le_of_ble_eq_true rfl), (Nat.le_of_ble_eq_true rfl)⟩ hl.1 rfl (lv_room (Nat.le_of_ble_eq_true rfl)) dX3_addParty_18 (fun u H locs h hP hD hS => ?_)
    obtain ⟨r18, mo18⟩ := u
    have hP : va_P D vwCl (wM cI mA mo18) H := hP
    have hD : va_D A (wM cI mA mo18) := hD
    exact zW_iret C (r18, mo18) rfl h hP hD hS (Nat.le_of_ble_eq_true rfl) (Nat.le_of_ble_eq_true rfl) dX3_addParty_21
def wpX3_addDuty_b229 (post : Int32 → MS → Prop) (p0 : Int32) (p1 : Int32) (p2 : Int32) (p3 : Int32) (p4 : Int32) (p5 : Int32) (p6 : Int32) (x8 : Int32) (mo_ : MS) : Prop := wpX3_run (fun mo232 => post x8 mo232) mo_ x8
def wpX3_addDuty_b127 (post : Int32 → MS → Prop) (p0 : Int32) (p1 : Int32) (p2 : Int32) (p3 : Int32) (p4 : Int32) (p5 : Int32) (p6 : Int32) (mo_ : MS) : Prop := vp_in mo_.2.2.1 20 ∧ (vp_in mo_.2.2.1 20 ∧ (vp_in mo_.2.2.1 20 ∧ (vp_in mo_.2.2.1 20 ∧ (vp_in mo_.2.2.1 20 ∧ (vp_in mo_.2.2.1 20 ∧ (vp_in mo_.2.2.1 20 ∧ ((p6 = (-1) → wpX3_addDuty_b229 post p0 p1 p2 p3 p4 p5 p6 mo_.2.2.1 (mo_.1, mo_.2.1, (mo_.2.2.1 + 1), (upd mo_.2.2.2.1 mo_.2.2.1.toNatClampNeg p0), (upd mo_.2.2.2.2.1 mo_.2.2.1.toNatClampNeg p1), (upd mo_.2.2.2.2.2.1 mo_.2.2.1.toNatClampNeg p2), (upd mo_.2.2.2.2.2.2.1 mo_.2.2.1.toNatClampNeg p3), (upd mo_.2.2.2.2.2.2.2.1 mo_.2.2.1.toNatClampNeg p4), (upd mo_.2.2.2.2.2.2.2.2.1 mo_.2.2.1.toNatClampNeg p5), (upd mo_.2.2.2.2.2.2.2.2.2.1 mo_.2.2.1.toNatClampNeg p6), mo_.2.2.2.2.2.2.2.2.2.2.1, mo_.2.2.2.2.2.2.2.2.2.2.2)) ∧ (¬ p6 = (-1) → wpX3_state (fun r212 => (3 ≤ r212 → wpX3_addDuty_b229 post p0 p1 p2 p3 p4 p5 p6 mo_.2.2.1 (mo_.1, mo_.2.1, (mo_.2.2.1 + 1), (upd mo_.2.2.2.1 mo_.2.2.1.toNatClampNeg p0), (upd mo_.2.2.2.2.1 mo_.2.2.1.toNatClampNeg p1), (upd mo_.2.2.2.2.2.1 mo_.2.2.1.toNatClampNeg p2), (upd mo_.2.2.2.2.2.2.1 mo_.2.2.1.toNatClampNeg p3), (upd mo_.2.2.2.2.2.2.2.1 mo_.2.2.1.toNatClampNeg p4), (upd mo_.2.2.2.2.2.2.2.2.1 mo_.2.2.1.toNatClampNeg p5), (upd mo_.2.2.2.2.2.2.2.2.2.1 mo_.2.2.1.toNatClampNeg p6), mo_.2.2.2.2.2.2.2.2.2.2.1, mo_.2.2.2.2.2.2.2.2.2.2.2)) ∧ (¬ 3 ≤ r212 → wpX3_end (fun mo223 => post mo_.2.2.1 mo223) (mo_.1, mo_.2.1, (mo_.2.2.1 + 1), (upd mo_.2.2.2.1 mo_.2.2.1.toNatClampNeg p0), (upd mo_.2.2.2.2.1 mo_.2.2.1.toNatClampNeg p1), (upd mo_.2.2.2.2.2.1 mo_.2.2.1.toNatClampNeg p2), (upd mo_.2.2.2.2.2.2.1 mo_.2.2.1.toNatClampNeg p3), (upd mo_.2.2.2.2.2.2.2.1 mo_.2.2.1.toNatClampNeg p4), (upd mo_.2.2.2.2.2.2.2.2.1 mo_.2.2.1.toNatClampNeg p5), (upd mo_.2.2.2.2.2.2.2.2.2.1 mo_.2.2.1.toNatClampNeg p6), mo_.2.2.2.2.2.2.2.2.2.2.1, mo_.2.2.2.2.2.2.2.2.2.2.2) mo_.2.2.1 0)) (mo_.1, mo_.2.1, (mo_.2.2.1 + 1), (upd mo_.2.2.2.1 mo_.2.2.1.toNatClampNeg p0), (upd mo_.2.2.2.2.1 mo_.2.2.1.toNatClampNeg p1), (upd mo_.2.2.2.2.2.1 mo_.2.2.1.toNatClampNeg p2), (upd mo_.2.2.2.2.2.2.1 mo_.2.2.1.toNatClampNeg p3), (upd mo_.2.2.2.2.2.2.2.1 mo_.2.2.1.toNatClampNeg p4), (upd mo_.2.2.2.2.2.2.2.2.1 mo_.2.2.1.toNatClampNeg p5), (upd mo_.2.2.2.2.2.2.2.2.2.1 mo_.2.2.1.toNatClampNeg p6), mo_.2.2.2.2.2.2.2.2.2.2.1, mo_.2.2.2.2.2.2.2.2.2.2.2) p6))))))))
def wpX3_addDuty_b42 (post : Int32 → MS → Prop) (p0 : Int32) (p1 : Int32) (p2 : Int32) (p3 : Int32) (p4 : Int32) (p5 : Int32) (p6 : Int32) (mo_ : MS) : Prop := (p0 = p1 → wpX3_no (fun r92 mo92 => post r92 mo92) mo_ 2) ∧ (¬ p0 = p1 → wpX3_isFrom (fun r51 => (r51 = 0 → wpX3_no (fun r92 mo92 => post r92 mo92) mo_ 2) ∧ (¬ r51 = 0 → wpX3_isFrom (fun r62 => (r62 = 0 → wpX3_no (fun r92 mo92 => post r92 mo92) mo_ 2) ∧ (¬ r62 = 0 → wpX3_isFrom (fun r73 => (r73 = 0 → wpX3_no (fun r92 mo92 => post r92 mo92) mo_ 2) ∧ (¬ r73 = 0 → wpX3_isFrom (fun r84 => (r84 = 0 → wpX3_no (fun r92 mo92 => post r92 mo92) mo_ 2) ∧ (¬ r84 = 0 → (mo_.2.2.1 = 20 → wpX3_no (fun r123 mo123 => post r123 mo123) mo_ 3) ∧ (¬ mo_.2.2.1 = 20 → (p6 = (-1) → wpX3_addDuty_b127 post p0 p1 p2 p3 p4 p5 p6 mo_) ∧ (¬ p6 = (-1) → wpX3_state (fun r114 => (r114 ≤ 3 → wpX3_addDuty_b127 post p0 p1 p2 p3 p4 p5 p6 mo_) ∧ (¬ r114 ≤ 3 → wpX3_no (fun r123 mo123 => post r123 mo123) mo_ 3)) mo_ p6)))) p5 0 20)) p4 0 10)) p3 1 30)) p2 1 50)
def wpX3_addDuty (post : Int32 → MS → Prop) (mo : MS) (p0 : Int32) (p1 : Int32) (p2 : Int32) (p3 : Int32) (p4 : Int32) (p5 : Int32) (p6 : Int32) : Prop := wpX3_isParty (fun r7 => (r7 = 0 → wpX3_no (fun r38 mo38 => post r38 mo38) (0, mo.2.1, mo.2.2.1, mo.2.2.2.1, mo.2.2.2.2.1, mo.2.2.2.2.2.1, mo.2.2.2.2.2.2.1, mo.2.2.2.2.2.2.2.1, mo.2.2.2.2.2.2.2.2.1, mo.2.2.2.2.2.2.2.2.2.1, mo.2.2.2.2.2.2.2.2.2.2.1, mo.2.2.2.2.2.2.2.2.2.2.2) 1) ∧ (¬ r7 = 0 → wpX3_isParty (fun r15 => (r15 = 0 → wpX3_no (fun r38 mo38 => post r38 mo38) (0, mo.2.1, mo.2.2.1, mo.2.2.2.1, mo.2.2.2.2.1, mo.2.2.2.2.2.1, mo.2.2.2.2.2.2.1, mo.2.2.2.2.2.2.2.1, mo.2.2.2.2.2.2.2.2.1, mo.2.2.2.2.2.2.2.2.2.1, mo.2.2.2.2.2.2.2.2.2.2.1, mo.2.2.2.2.2.2.2.2.2.2.2) 1) ∧ (¬ r15 = 0 → (p6 = (-1) → wpX3_addDuty_b42 post p0 p1 p2 p3 p4 p5 p6 (0, mo.2.1, mo.2.2.1, mo.2.2.2.1, mo.2.2.2.2.1, mo.2.2.2.2.2.1, mo.2.2.2.2.2.2.1, mo.2.2.2.2.2.2.2.1, mo.2.2.2.2.2.2.2.2.1, mo.2.2.2.2.2.2.2.2.2.1, mo.2.2.2.2.2.2.2.2.2.2.1, mo.2.2.2.2.2.2.2.2.2.2.2)) ∧ (¬ p6 = (-1) → wpX3_isDuty (fun r30 => (r30 = 0 → wpX3_no (fun r38 mo38 => post r38 mo38) (0, mo.2.1, mo.2.2.1, mo.2.2.2.1, mo.2.2.2.2.1, mo.2.2.2.2.2.1, mo.2.2.2.2.2.2.1, mo.2.2.2.2.2.2.2.1, mo.2.2.2.2.2.2.2.2.1, mo.2.2.2.2.2.2.2.2.2.1, mo.2.2.2.2.2.2.2.2.2.2.1, mo.2.2.2.2.2.2.2.2.2.2.2) 1) ∧ (¬ r30 = 0 → wpX3_addDuty_b42 post p0 p1 p2 p3 p4 p5 p6 (0, mo.2.1, mo.2.2.1, mo.2.2.2.1, mo.2.2.2.2.1, mo.2.2.2.2.2.1, mo.2.2.2.2.2.2.1, mo.2.2.2.2.2.2.2.1, mo.2.2.2.2.2.2.2.2.1, mo.2.2.2.2.2.2.2.2.2.1, mo.2.2.2.2.2.2.2.2.2.2.1, mo.2.2.2.2.2.2.2.2.2.2.2))) (0, mo.2.1, mo.2.2.1, mo.2.2.2.1, mo.2.2.2.2.1, mo.2.2.2.2.2.1, mo.2.2.2.2.2.2.1, mo.2.2.2.2.2.2.2.1, mo.2.2.2.2.2.2.2.2.1, mo.2.2.2.2.2.2.2.2.2.1, mo.2.2.2.2.2.2.2.2.2.2.1, mo.2.2.2.2.2.2.2.2.2.2.2) p6))) (0, mo.2.1, mo.2.2.1, mo.2.2.2.1, mo.2.2.2.2.1, mo.2.2.2.2.2.1, mo.2.2.2.2.2.2.1, mo.2.2.2.2.2.2.2.1, mo.2.2.2.2.2.2.2.2.1, mo.2.2.2.2.2.2.2.2.2.1, mo.2.2.2.2.2.2.2.2.2.2.1, mo.2.2.2.2.2.2.2.2.2.2.2) p1)) (0, mo.2.1, mo.2.2.1, mo.2.2.2.1, mo.2.2.2.2.1, mo.2.2.2.2.2.1, mo.2.2.2.2.2.2.1, mo.2.2.2.2.2.2.2.1, mo.2.2.2.2.2.2.2.2.1, mo.2.2.2.2.2.2.2.2.2.1, mo.2.2.2.2.2.2.2.2.2.2.1, mo.2.2.2.2.2.2.2.2.2.2.2) p0
set_option maxHeartbeats 4000000 in
set_option maxRecDepth 100000 in
theorem c_X3_addDuty {l : Launch} (hfl : l.stackTraces = false) {s0 : State} (hs0 : zS s0) (D : va_G) (cI cB cJ : ClassId) (mA : Nat → Nat) (mo : MS) (p0 : Int32) (p1 : Int32) (p2 : Int32) (p3 : Int32) (p4 : Int32) (p5 : Int32) (p6 : Int32) {post : Int32 → MS → Prop} (h : wpX3_addDuty post mo p0 p1 p2 p3 p4 p5 p6) : zW s0 l D (zty cI cB cJ) yX3_addDuty cX3_addDuty 9 (some .int) 3 0 0 [.ref (mA 0), .int p0, .int p1, .int p2, .int p3, .int p4, .int p5, .int p6] (wM cI mA mo) (fun u : Int32 × MS => some (Value.int u.1)) (fun u : Int32 × MS => post u.1 u.2) (fun u : Int32 × MS => wM cI mA u.2) := by
  refine zW_intro (by decide +kernel) (Nat.le_of_ble_eq_true rfl) ?_
  intro p e s m below meth c A C hnm hA hG hP hD hS ls hl
  have C : zC D (zty cI cB cJ) p s m ([.ref (mA 0), .int p0, .int p1, .int p2, .int p3, .int p4, .int p5, .int p6] : List Value).toArray meth c cX3_addDuty RX3 (some .int) 9 := C
  have hx := C.1
  have hb := C.2.1
  have hts := C.2.2.1
  have hown := C.2.2.2.1
  have hml := C.2.2.2.2.2.1
  have hK := C.2.2.2.2.2.2.2
  have hl : lv_has ls 9 [(0, .ref (mA 0)), (1, .int p0), (2, .int p1), (3, .int p2), (4, .int p3), (5, .int p4), (6, .int p5), (7, .int p6)] := hl
  have hP : va_P D vwCl (wM cI mA mo) s.heap := hP
  have hD : va_D A (wM cI mA mo) := hD
  have k229 : ∀ (x8 : Int32) (mo_ : MS) (H : Heap) (locs : List Loc), va_P D vwCl (wM cI mA mo_) H → va_D A (wM cI mA mo_) → va_S A s.heap H locs → ∀ (ls : Array Slot), lv_has ls 9 [(0, .ref (mA 0)), (8, .int x8)] → wpX3_addDuty_b229 post p0 p1 p2 p3 p4 p5 p6 x8 mo_ → W p l e (zr 3 0 0) s m ([.ref (mA 0), .int p0, .int p1, .int p2, .int p3, .int p4, .int p5, .int p6] : List Value).toArray below meth c H locs 0 0 (MQ below (zQ D (fun u : Int32 × MS => some (Value.int u.1)) (fun u : Int32 × MS => post u.1 u.2) (fun u : Int32 × MS => wM cI mA u.2) A) ([.ref (mA 0), .int p0, .int p1, .int p2, .int p3, .int p4, .int p5, .int p6] : List Value).toArray s 0 0 A) (F0 m 229 ls []) := by
    intro x8 mo_ H locs hP hD hS ls hl h
    unfold wpX3_addDuty_b229 at h
    refine lv_aload_n hx hb dX3_addDuty_229 rfl (lv_at hl 0 rfl) ?_
    refine lv_iload hx hb dX3_addDuty_230 (lv_at hl 1 rfl) ?_
    refine z_WV (As := [.int x8]) (rest := []) (wr := ([] : va_W)) (wN := (fun u : MS => wM cI mA u)) [0, 1, 2, 3, 4, 5, 6, 7, 8, 9] [] [0, 1, 2, 3, 4, 5, 6, 7, 8, 9] C hG hA hP hD hS (c_X3_run hfl hs0 D cI cB cJ mA mo_ x8 h) q96 v_X3_run rfl rfl ⟨by decide, by decide, by decide⟩ (by decide) (fun _ => rfl) rfl rfl rfl ⟨(Nat.le_of_ble_eq_true rfl), (Nat.le_of_ble_eq_true rfl)⟩ ⟨(Nat.le_of_ble_eq_true rfl), (Nat.le_of_ble_eq_true rfl)⟩ hl.1 rfl (lv_room (Nat.le_of_ble_eq_true rfl)) dX3_addDuty_232 (fun u H locs h hP hD hS => ?_)
    obtain ⟨mo232, rfl⟩ : ∃ z, z = u := ⟨_, rfl⟩
    have hP : va_P D vwCl (wM cI mA mo232) H := hP
    have hD : va_D A (wM cI mA mo232) := hD
    refine lv_iload hx hb dX3_addDuty_235 (lv_at hl 1 rfl) ?_
    exact zW_iret C (x8, mo232) rfl h hP hD hS (Nat.le_of_ble_eq_true rfl) (Nat.le_of_ble_eq_true rfl) dX3_addDuty_237
  have k127 : ∀ (mo_ : MS) (H : Heap) (locs : List Loc), va_P D vwCl (wM cI mA mo_) H → va_D A (wM cI mA mo_) → va_S A s.heap H locs → ∀ (ls : Array Slot), lv_has ls 9 [(0, .ref (mA 0)), (1, .int p0), (2, .int p1), (3, .int p2), (4, .int p3), (5, .int p4), (6, .int p5), (7, .int p6)] → wpX3_addDuty_b127 post p0 p1 p2 p3 p4 p5 p6 mo_ → W p l e (zr 3 0 0) s m ([.ref (mA 0), .int p0, .int p1, .int p2, .int p3, .int p4, .int p5, .int p6] : List Value).toArray below meth c H locs 0 0 (MQ below (zQ D (fun u : Int32 × MS => some (Value.int u.1)) (fun u : Int32 × MS => post u.1 u.2) (fun u : Int32 × MS => wM cI mA u.2) A) ([.ref (mA 0), .int p0, .int p1, .int p2, .int p3, .int p4, .int p5, .int p6] : List Value).toArray s 0 0 A) (F0 m 127 ls []) := by
    intro mo_ H locs hP hD hS ls hl h
    unfold wpX3_addDuty_b127 at h
    refine lv_aload_n hx hb dX3_addDuty_127 rfl (lv_at hl 0 rfl) ?_
    refine z_get C f_X3_55 hP (q0 := 0) rfl rfl dX3_addDuty_128 ?_
    refine lv_istore (lv' := [(8, .int mo_.2.2.1), (0, .ref (mA 0)), (1, .int p0), (2, .int p1), (3, .int p2), (4, .int p3), (5, .int p4), (6, .int p5), (7, .int p6)]) hx hb dX3_addDuty_131 hl (by decide) rfl (fun ls hl => ?_)
    refine lv_aload_n hx hb dX3_addDuty_133 rfl (lv_at hl 1 rfl) ?_
    refine lv_dup hx hb dX3_addDuty_134 rfl ?_
    refine z_get C f_X3_55 hP (q0 := 0) rfl rfl dX3_addDuty_135 ?_
    refine lv_iconst (v := 1) hx hb dX3_addDuty_138 (by decide) ?_
    refine lv_iadd hx hb dX3_addDuty_139 ?_
    refine z_put C f_X3_55 zt_X3 rfl rfl rfl rfl hP hD hS (q0 := 0) rfl (Nat.le_of_ble_eq_true rfl) dX3_addDuty_140 (fun H locs hP hD hS => ?_)
    have hP : va_P D vwCl (wM cI mA (mo_.1, mo_.2.1, (mo_.2.2.1 + 1), mo_.2.2.2.1, mo_.2.2.2.2.1, mo_.2.2.2.2.2.1, mo_.2.2.2.2.2.2.1, mo_.2.2.2.2.2.2.2.1, mo_.2.2.2.2.2.2.2.2.1, mo_.2.2.2.2.2.2.2.2.2.1, mo_.2.2.2.2.2.2.2.2.2.2.1, mo_.2.2.2.2.2.2.2.2.2.2.2)) H := hP
    have hD : va_D A (wM cI mA (mo_.1, mo_.2.1, (mo_.2.2.1 + 1), mo_.2.2.2.1, mo_.2.2.2.2.1, mo_.2.2.2.2.2.1, mo_.2.2.2.2.2.2.1, mo_.2.2.2.2.2.2.2.1, mo_.2.2.2.2.2.2.2.2.1, mo_.2.2.2.2.2.2.2.2.2.1, mo_.2.2.2.2.2.2.2.2.2.2.1, mo_.2.2.2.2.2.2.2.2.2.2.2)) := hD
    refine lv_aload_n hx hb dX3_addDuty_143 rfl (lv_at hl 1 rfl) ?_
    refine z_get C f_X3_9 hP (q0 := 0) rfl rfl dX3_addDuty_144 ?_
    refine lv_iload hx hb dX3_addDuty_147 (lv_at hl 0 rfl) ?_
    refine lv_iload_n hx hb dX3_addDuty_149 rfl (lv_at hl 2 rfl) ?_
    obtain ⟨g9, h⟩ := h
    refine va_iast hx hb hK hP hD hS 1 0 rfl rfl g9 dX3_addDuty_150 (fun H locs hP hD hS => ?_)
    have hP : va_P D vwCl (wM cI mA (mo_.1, mo_.2.1, (mo_.2.2.1 + 1), (upd mo_.2.2.2.1 mo_.2.2.1.toNatClampNeg p0), mo_.2.2.2.2.1, mo_.2.2.2.2.2.1, mo_.2.2.2.2.2.2.1, mo_.2.2.2.2.2.2.2.1, mo_.2.2.2.2.2.2.2.2.1, mo_.2.2.2.2.2.2.2.2.2.1, mo_.2.2.2.2.2.2.2.2.2.2.1, mo_.2.2.2.2.2.2.2.2.2.2.2)) H := hP
    have hD : va_D A (wM cI mA (mo_.1, mo_.2.1, (mo_.2.2.1 + 1), (upd mo_.2.2.2.1 mo_.2.2.1.toNatClampNeg p0), mo_.2.2.2.2.1, mo_.2.2.2.2.2.1, mo_.2.2.2.2.2.2.1, mo_.2.2.2.2.2.2.2.1, mo_.2.2.2.2.2.2.2.2.1, mo_.2.2.2.2.2.2.2.2.2.1, mo_.2.2.2.2.2.2.2.2.2.2.1, mo_.2.2.2.2.2.2.2.2.2.2.2)) := hD
    refine lv_aload_n hx hb dX3_addDuty_151 rfl (lv_at hl 1 rfl) ?_
    refine z_get C f_X3_13 hP (q0 := 0) rfl rfl dX3_addDuty_152 ?_
    refine lv_iload hx hb dX3_addDuty_155 (lv_at hl 0 rfl) ?_
    refine lv_iload_n hx hb dX3_addDuty_157 rfl (lv_at hl 3 rfl) ?_
    obtain ⟨g9, h⟩ := h
    refine va_iast hx hb hK hP hD hS 2 0 rfl rfl g9 dX3_addDuty_158 (fun H locs hP hD hS => ?_)
    have hP : va_P D vwCl (wM cI mA (mo_.1, mo_.2.1, (mo_.2.2.1 + 1), (upd mo_.2.2.2.1 mo_.2.2.1.toNatClampNeg p0), (upd mo_.2.2.2.2.1 mo_.2.2.1.toNatClampNeg p1), mo_.2.2.2.2.2.1, mo_.2.2.2.2.2.2.1, mo_.2.2.2.2.2.2.2.1, mo_.2.2.2.2.2.2.2.2.1, mo_.2.2.2.2.2.2.2.2.2.1, mo_.2.2.2.2.2.2.2.2.2.2.1, mo_.2.2.2.2.2.2.2.2.2.2.2)) H := hP
    have hD : va_D A (wM cI mA (mo_.1, mo_.2.1, (mo_.2.2.1 + 1), (upd mo_.2.2.2.1 mo_.2.2.1.toNatClampNeg p0), (upd mo_.2.2.2.2.1 mo_.2.2.1.toNatClampNeg p1), mo_.2.2.2.2.2.1, mo_.2.2.2.2.2.2.1, mo_.2.2.2.2.2.2.2.1, mo_.2.2.2.2.2.2.2.2.1, mo_.2.2.2.2.2.2.2.2.2.1, mo_.2.2.2.2.2.2.2.2.2.2.1, mo_.2.2.2.2.2.2.2.2.2.2.2)) := hD
    refine lv_aload_n hx hb dX3_addDuty_159 rfl (lv_at hl 1 rfl) ?_
    refine z_get C f_X3_16 hP (q0 := 0) rfl rfl dX3_addDuty_160 ?_
    refine lv_iload hx hb dX3_addDuty_163 (lv_at hl 0 rfl) ?_
    refine lv_iload_n hx hb dX3_addDuty_165 rfl (lv_at hl 4 rfl) ?_
    obtain ⟨g9, h⟩ := h
    refine va_iast hx hb hK hP hD hS 3 0 rfl rfl g9 dX3_addDuty_166 (fun H locs hP hD hS => ?_)
    have hP : va_P D vwCl (wM cI mA (mo_.1, mo_.2.1, (mo_.2.2.1 + 1), (upd mo_.2.2.2.1 mo_.2.2.1.toNatClampNeg p0), (upd mo_.2.2.2.2.1 mo_.2.2.1.toNatClampNeg p1), (upd mo_.2.2.2.2.2.1 mo_.2.2.1.toNatClampNeg p2), mo_.2.2.2.2.2.2.1, mo_.2.2.2.2.2.2.2.1, mo_.2.2.2.2.2.2.2.2.1, mo_.2.2.2.2.2.2.2.2.2.1, mo_.2.2.2.2.2.2.2.2.2.2.1, mo_.2.2.2.2.2.2.2.2.2.2.2)) H := hP
    have hD : va_D A (wM cI mA (mo_.1, mo_.2.1, (mo_.2.2.1 + 1), (upd mo_.2.2.2.1 mo_.2.2.1.toNatClampNeg p0), (upd mo_.2.2.2.2.1 mo_.2.2.1.toNatClampNeg p1), (upd mo_.2.2.2.2.2.1 mo_.2.2.1.toNatClampNeg p2), mo_.2.2.2.2.2.2.1, mo_.2.2.2.2.2.2.2.1, mo_.2.2.2.2.2.2.2.2.1, mo_.2.2.2.2.2.2.2.2.2.1, mo_.2.2.2.2.2.2.2.2.2.2.1, mo_.2.2.2.2.2.2.2.2.2.2.2)) := hD
    refine lv_aload_n hx hb dX3_addDuty_167 rfl (lv_at hl 1 rfl) ?_
    refine z_get C f_X3_19 hP (q0 := 0) rfl rfl dX3_addDuty_168 ?_
    refine lv_iload hx hb dX3_addDuty_171 (lv_at hl 0 rfl) ?_
    refine lv_iload hx hb dX3_addDuty_173 (lv_at hl 5 rfl) ?_
    obtain ⟨g9, h⟩ := h
    refine va_iast hx hb hK hP hD hS 4 0 rfl rfl g9 dX3_addDuty_175 (fun H locs hP hD hS => ?_)
    have hP : va_P D vwCl (wM cI mA (mo_.1, mo_.2.1, (mo_.2.2.1 + 1), (upd mo_.2.2.2.1 mo_.2.2.1.toNatClampNeg p0), (upd mo_.2.2.2.2.1 mo_.2.2.1.toNatClampNeg p1), (upd mo_.2.2.2.2.2.1 mo_.2.2.1.toNatClampNeg p2), (upd mo_.2.2.2.2.2.2.1 mo_.2.2.1.toNatClampNeg p3), mo_.2.2.2.2.2.2.2.1, mo_.2.2.2.2.2.2.2.2.1, mo_.2.2.2.2.2.2.2.2.2.1, mo_.2.2.2.2.2.2.2.2.2.2.1, mo_.2.2.2.2.2.2.2.2.2.2.2)) H := hP
    have hD : va_D A (wM cI mA (mo_.1, mo_.2.1, (mo_.2.2.1 + 1), (upd mo_.2.2.2.1 mo_.2.2.1.toNatClampNeg p0), (upd mo_.2.2.2.2.1 mo_.2.2.1.toNatClampNeg p1), (upd mo_.2.2.2.2.2.1 mo_.2.2.1.toNatClampNeg p2), (upd mo_.2.2.2.2.2.2.1 mo_.2.2.1.toNatClampNeg p3), mo_.2.2.2.2.2.2.2.1, mo_.2.2.2.2.2.2.2.2.1, mo_.2.2.2.2.2.2.2.2.2.1, mo_.2.2.2.2.2.2.2.2.2.2.1, mo_.2.2.2.2.2.2.2.2.2.2.2)) := hD
    refine lv_aload_n hx hb dX3_addDuty_176 rfl (lv_at hl 1 rfl) ?_
    refine z_get C f_X3_22 hP (q0 := 0) rfl rfl dX3_addDuty_177 ?_
    refine lv_iload hx hb dX3_addDuty_180 (lv_at hl 0 rfl) ?_
    refine lv_iload hx hb dX3_addDuty_182 (lv_at hl 6 rfl) ?_
    obtain ⟨g9, h⟩ := h
    refine va_iast hx hb hK hP hD hS 5 0 rfl rfl g9 dX3_addDuty_184 (fun H locs hP hD hS => ?_)
    have hP : va_P D vwCl (wM cI mA (mo_.1, mo_.2.1, (mo_.2.2.1 + 1), (upd mo_.2.2.2.1 mo_.2.2.1.toNatClampNeg p0), (upd mo_.2.2.2.2.1 mo_.2.2.1.toNatClampNeg p1), (upd mo_.2.2.2.2.2.1 mo_.2.2.1.toNatClampNeg p2), (upd mo_.2.2.2.2.2.2.1 mo_.2.2.1.toNatClampNeg p3), (upd mo_.2.2.2.2.2.2.2.1 mo_.2.2.1.toNatClampNeg p4), mo_.2.2.2.2.2.2.2.2.1, mo_.2.2.2.2.2.2.2.2.2.1, mo_.2.2.2.2.2.2.2.2.2.2.1, mo_.2.2.2.2.2.2.2.2.2.2.2)) H := hP
    have hD : va_D A (wM cI mA (mo_.1, mo_.2.1, (mo_.2.2.1 + 1), (upd mo_.2.2.2.1 mo_.2.2.1.toNatClampNeg p0), (upd mo_.2.2.2.2.1 mo_.2.2.1.toNatClampNeg p1), (upd mo_.2.2.2.2.2.1 mo_.2.2.1.toNatClampNeg p2), (upd mo_.2.2.2.2.2.2.1 mo_.2.2.1.toNatClampNeg p3), (upd mo_.2.2.2.2.2.2.2.1 mo_.2.2.1.toNatClampNeg p4), mo_.2.2.2.2.2.2.2.2.1, mo_.2.2.2.2.2.2.2.2.2.1, mo_.2.2.2.2.2.2.2.2.2.2.1, mo_.2.2.2.2.2.2.2.2.2.2.2)) := hD
    refine lv_aload_n hx hb dX3_addDuty_185 rfl (lv_at hl 1 rfl) ?_
    refine z_get C f_X3_25 hP (q0 := 0) rfl rfl dX3_addDuty_186 ?_
    refine lv_iload hx hb dX3_addDuty_189 (lv_at hl 0 rfl) ?_
    refine lv_iload hx hb dX3_addDuty_191 (lv_at hl 7 rfl) ?_
    obtain ⟨g9, h⟩ := h
    refine va_iast hx hb hK hP hD hS 6 0 rfl rfl g9 dX3_addDuty_193 (fun H locs hP hD hS => ?_)
    have hP : va_P D vwCl (wM cI mA (mo_.1, mo_.2.1, (mo_.2.2.1 + 1), (upd mo_.2.2.2.1 mo_.2.2.1.toNatClampNeg p0), (upd mo_.2.2.2.2.1 mo_.2.2.1.toNatClampNeg p1), (upd mo_.2.2.2.2.2.1 mo_.2.2.1.toNatClampNeg p2), (upd mo_.2.2.2.2.2.2.1 mo_.2.2.1.toNatClampNeg p3), (upd mo_.2.2.2.2.2.2.2.1 mo_.2.2.1.toNatClampNeg p4), (upd mo_.2.2.2.2.2.2.2.2.1 mo_.2.2.1.toNatClampNeg p5), mo_.2.2.2.2.2.2.2.2.2.1, mo_.2.2.2.2.2.2.2.2.2.2.1, mo_.2.2.2.2.2.2.2.2.2.2.2)) H := hP
    have hD : va_D A (wM cI mA (mo_.1, mo_.2.1, (mo_.2.2.1 + 1), (upd mo_.2.2.2.1 mo_.2.2.1.toNatClampNeg p0), (upd mo_.2.2.2.2.1 mo_.2.2.1.toNatClampNeg p1), (upd mo_.2.2.2.2.2.1 mo_.2.2.1.toNatClampNeg p2), (upd mo_.2.2.2.2.2.2.1 mo_.2.2.1.toNatClampNeg p3), (upd mo_.2.2.2.2.2.2.2.1 mo_.2.2.1.toNatClampNeg p4), (upd mo_.2.2.2.2.2.2.2.2.1 mo_.2.2.1.toNatClampNeg p5), mo_.2.2.2.2.2.2.2.2.2.1, mo_.2.2.2.2.2.2.2.2.2.2.1, mo_.2.2.2.2.2.2.2.2.2.2.2)) := hD
    refine lv_aload_n hx hb dX3_addDuty_194 rfl (lv_at hl 1 rfl) ?_
    refine z_get C f_X3_28 hP (q0 := 0) rfl rfl dX3_addDuty_195 ?_
    refine lv_iload hx hb dX3_addDuty_198 (lv_at hl 0 rfl) ?_
    refine lv_iload hx hb dX3_addDuty_200 (lv_at hl 8 rfl) ?_
    obtain ⟨g9, h⟩ := h
    refine va_iast hx hb hK hP hD hS 7 0 rfl rfl g9 dX3_addDuty_202 (fun H locs hP hD hS => ?_)
    have hP : va_P D vwCl (wM cI mA (mo_.1, mo_.2.1, (mo_.2.2.1 + 1), (upd mo_.2.2.2.1 mo_.2.2.1.toNatClampNeg p0), (upd mo_.2.2.2.2.1 mo_.2.2.1.toNatClampNeg p1), (upd mo_.2.2.2.2.2.1 mo_.2.2.1.toNatClampNeg p2), (upd mo_.2.2.2.2.2.2.1 mo_.2.2.1.toNatClampNeg p3), (upd mo_.2.2.2.2.2.2.2.1 mo_.2.2.1.toNatClampNeg p4), (upd mo_.2.2.2.2.2.2.2.2.1 mo_.2.2.1.toNatClampNeg p5), (upd mo_.2.2.2.2.2.2.2.2.2.1 mo_.2.2.1.toNatClampNeg p6), mo_.2.2.2.2.2.2.2.2.2.2.1, mo_.2.2.2.2.2.2.2.2.2.2.2)) H := hP
    have hD : va_D A (wM cI mA (mo_.1, mo_.2.1, (mo_.2.2.1 + 1), (upd mo_.2.2.2.1 mo_.2.2.1.toNatClampNeg p0), (upd mo_.2.2.2.2.1 mo_.2.2.1.toNatClampNeg p1), (upd mo_.2.2.2.2.2.1 mo_.2.2.1.toNatClampNeg p2), (upd mo_.2.2.2.2.2.2.1 mo_.2.2.1.toNatClampNeg p3), (upd mo_.2.2.2.2.2.2.2.1 mo_.2.2.1.toNatClampNeg p4), (upd mo_.2.2.2.2.2.2.2.2.1 mo_.2.2.1.toNatClampNeg p5), (upd mo_.2.2.2.2.2.2.2.2.2.1 mo_.2.2.1.toNatClampNeg p6), mo_.2.2.2.2.2.2.2.2.2.2.1, mo_.2.2.2.2.2.2.2.2.2.2.2)) := hD
    refine lv_iload hx hb dX3_addDuty_203 (lv_at hl 8 rfl) ?_
    refine lv_iconst (v := (-1)) hx hb dX3_addDuty_205 (by decide) ?_
    refine lv_icmp_eq (tgt := 229) hx hb dX3_addDuty_206 (by decide) (fun c206 => ?_) (fun c206 => ?_)
    · have h := h.1 c206
      refine W.widen (k := 0) (n := 0) (Nat.le_of_ble_eq_true rfl) (Nat.le_of_ble_eq_true rfl) ?_
      exact k229 mo_.2.2.1 (mo_.1, mo_.2.1, (mo_.2.2.1 + 1), (upd mo_.2.2.2.1 mo_.2.2.1.toNatClampNeg p0), (upd mo_.2.2.2.2.1 mo_.2.2.1.toNatClampNeg p1), (upd mo_.2.2.2.2.2.1 mo_.2.2.1.toNatClampNeg p2), (upd mo_.2.2.2.2.2.2.1 mo_.2.2.1.toNatClampNeg p3), (upd mo_.2.2.2.2.2.2.2.1 mo_.2.2.1.toNatClampNeg p4), (upd mo_.2.2.2.2.2.2.2.2.1 mo_.2.2.1.toNatClampNeg p5), (upd mo_.2.2.2.2.2.2.2.2.2.1 mo_.2.2.1.toNatClampNeg p6), mo_.2.2.2.2.2.2.2.2.2.2.1, mo_.2.2.2.2.2.2.2.2.2.2.2)  _ _ hP hD hS _ (lv_sub hl [1, 0] rfl) h
    · have h := h.2 c206
      refine lv_aload_n hx hb dX3_addDuty_209 rfl (lv_at hl 1 rfl) ?_
      refine lv_iload hx hb dX3_addDuty_210 (lv_at hl 8 rfl) ?_
      refine z_RV (As := [.int p6]) (rest := []) [0, 1, 2, 3, 4, 5, 6, 7, 8, 9] C (hG.kept hS.1 hS.2.1).none hP (c_X3_state hfl hs0 D cI cB cJ mA (mo_.1, mo_.2.1, (mo_.2.2.1 + 1), (upd mo_.2.2.2.1 mo_.2.2.1.toNatClampNeg p0), (upd mo_.2.2.2.2.1 mo_.2.2.1.toNatClampNeg p1), (upd mo_.2.2.2.2.2.1 mo_.2.2.1.toNatClampNeg p2), (upd mo_.2.2.2.2.2.2.1 mo_.2.2.1.toNatClampNeg p3), (upd mo_.2.2.2.2.2.2.2.1 mo_.2.2.1.toNatClampNeg p4), (upd mo_.2.2.2.2.2.2.2.2.1 mo_.2.2.1.toNatClampNeg p5), (upd mo_.2.2.2.2.2.2.2.2.2.1 mo_.2.2.1.toNatClampNeg p6), mo_.2.2.2.2.2.2.2.2.2.2.1, mo_.2.2.2.2.2.2.2.2.2.2.2) p6 h) q74 v_X3_state rfl rfl rfl rfl ⟨(Nat.le_of_ble_eq_true rfl), (Nat.le_of_ble_eq_true rfl)⟩ ⟨(Nat.le_of_ble_eq_true rfl), (Nat.le_of_ble_eq_true rfl)⟩ hl.1 rfl (lv_room (Nat.le_of_ble_eq_true rfl)) dX3_addDuty_212 (fun r212 h => ?_)
      refine lv_iconst (v := 3) hx hb dX3_addDuty_215 (by decide) ?_
      refine lv_icmp_ge (tgt := 229) hx hb dX3_addDuty_216 (by decide) (fun c216 => ?_) (fun c216 => ?_)
      · have h := h.1 c216
        refine W.widen (k := 0) (n := 0) (Nat.le_of_ble_eq_true rfl) (Nat.le_of_ble_eq_true rfl) ?_
        exact k229 mo_.2.2.1 (mo_.1, mo_.2.1, (mo_.2.2.1 + 1), (upd mo_.2.2.2.1 mo_.2.2.1.toNatClampNeg p0), (upd mo_.2.2.2.2.1 mo_.2.2.1.toNatClampNeg p1), (upd mo_.2.2.2.2.2.1 mo_.2.2.1.toNatClampNeg p2), (upd mo_.2.2.2.2.2.2.1 mo_.2.2.1.toNatClampNeg p3), (upd mo_.2.2.2.2.2.2.2.1 mo_.2.2.1.toNatClampNeg p4), (upd mo_.2.2.2.2.2.2.2.2.1 mo_.2.2.1.toNatClampNeg p5), (upd mo_.2.2.2.2.2.2.2.2.2.1 mo_.2.2.1.toNatClampNeg p6), mo_.2.2.2.2.2.2.2.2.2.2.1, mo_.2.2.2.2.2.2.2.2.2.2.2)  _ _ hP hD hS _ (lv_sub hl [1, 0] rfl) h
      · have h := h.2 c216
        refine lv_aload_n hx hb dX3_addDuty_219 rfl (lv_at hl 1 rfl) ?_
        refine lv_iload hx hb dX3_addDuty_220 (lv_at hl 0 rfl) ?_
        refine lv_iconst (v := 0) hx hb dX3_addDuty_222 (by decide) ?_
        refine z_WV (As := [.int mo_.2.2.1, .int 0]) (rest := []) (wr := ([] : va_W)) (wN := (fun u : MS => wM cI mA u)) [0, 1, 2, 3, 4, 5, 6, 7, 8, 9] [] [0, 1, 2, 3, 4, 5, 6, 7, 8, 9] C hG hA hP hD hS (c_X3_end hfl hs0 D cI cB cJ mA (mo_.1, mo_.2.1, (mo_.2.2.1 + 1), (upd mo_.2.2.2.1 mo_.2.2.1.toNatClampNeg p0), (upd mo_.2.2.2.2.1 mo_.2.2.1.toNatClampNeg p1), (upd mo_.2.2.2.2.2.1 mo_.2.2.1.toNatClampNeg p2), (upd mo_.2.2.2.2.2.2.1 mo_.2.2.1.toNatClampNeg p3), (upd mo_.2.2.2.2.2.2.2.1 mo_.2.2.1.toNatClampNeg p4), (upd mo_.2.2.2.2.2.2.2.2.1 mo_.2.2.1.toNatClampNeg p5), (upd mo_.2.2.2.2.2.2.2.2.2.1 mo_.2.2.1.toNatClampNeg p6), mo_.2.2.2.2.2.2.2.2.2.2.1, mo_.2.2.2.2.2.2.2.2.2.2.2) mo_.2.2.1 0 h) q82 v_X3_end rfl rfl ⟨by decide, by decide, by decide⟩ (by decide) (fun _ => rfl) rfl rfl rfl ⟨(Nat.le_of_ble_eq_true rfl), (Nat.le_of_ble_eq_true rfl)⟩ ⟨(Nat.le_of_ble_eq_true rfl), (Nat.le_of_ble_eq_true rfl)⟩ hl.1 rfl (lv_room (Nat.le_of_ble_eq_true rfl)) dX3_addDuty_223 (fun u H locs h hP hD hS => ?_)
        obtain ⟨mo223, rfl⟩ : ∃ z, z = u := ⟨_, rfl⟩
        have hP : va_P D vwCl (wM cI mA mo223) H := hP
        have hD : va_D A (wM cI mA mo223) := hD
        refine lv_goto (tgt := 235) hx hb dX3_addDuty_226 (by decide) ?_
        refine lv_iload hx hb dX3_addDuty_235 (lv_at hl 0 rfl) ?_
        exact zW_iret C (mo_.2.2.1, mo223) rfl h hP hD hS (Nat.le_of_ble_eq_true rfl) (Nat.le_of_ble_eq_true rfl) dX3_addDuty_237
  have k42 : ∀ (mo_ : MS) (H : Heap) (locs : List Loc), va_P D vwCl (wM cI mA mo_) H → va_D A (wM cI mA mo_) → va_S A s.heap H locs → ∀ (ls : Array Slot), lv_has ls 9 [(0, .ref (mA 0)), (1, .int p0), (2, .int p1), (3, .int p2), (4, .int p3), (5, .int p4), (6, .int p5), (7, .int p6)] → wpX3_addDuty_b42 post p0 p1 p2 p3 p4 p5 p6 mo_ → W p l e (zr 3 0 0) s m ([.ref (mA 0), .int p0, .int p1, .int p2, .int p3, .int p4, .int p5, .int p6] : List Value).toArray below meth c H locs 0 0 (MQ below (zQ D (fun u : Int32 × MS => some (Value.int u.1)) (fun u : Int32 × MS => post u.1 u.2) (fun u : Int32 × MS => wM cI mA u.2) A) ([.ref (mA 0), .int p0, .int p1, .int p2, .int p3, .int p4, .int p5, .int p6] : List Value).toArray s 0 0 A) (F0 m 42 ls []) := by
    intro mo_ H locs hP hD hS ls hl h
    unfold wpX3_addDuty_b42 at h
    refine lv_iload_n hx hb dX3_addDuty_42 rfl (lv_at hl 1 rfl) ?_
    refine lv_iload_n hx hb dX3_addDuty_43 rfl (lv_at hl 2 rfl) ?_
    refine lv_icmp_eq (tgt := 90) hx hb dX3_addDuty_44 (by decide) (fun c44 => ?_) (fun c44 => ?_)
    · have h := h.1 c44
      refine lv_aload_n hx hb dX3_addDuty_90 rfl (lv_at hl 0 rfl) ?_
      refine lv_iconst (v := 2) hx hb dX3_addDuty_91 (by decide) ?_
      refine z_WV (As := [.int 2]) (rest := []) (wr := ([] : va_W)) (wN := (fun u : Int32 × MS => wM cI mA u.2)) [0, 1, 2, 3, 4, 5, 6, 7, 8, 9] [] [0, 1, 2, 3, 4, 5, 6, 7, 8, 9] C hG hA hP hD hS (c_X3_no hfl hs0 D cI cB cJ mA mo_ 2 h) q122 v_X3_no rfl rfl ⟨by decide, by decide, by decide⟩ (by decide) (fun _ => rfl) rfl rfl rfl ⟨(Nat.le_of_ble_eq_true rfl), (Nat.le_of_ble_eq_true rfl)⟩ ⟨(Nat.le_of_ble_eq_true rfl), (Nat.le_of_ble_eq_true rfl)⟩ hl.1 rfl (lv_room (Nat.le_of_ble_eq_true rfl)) dX3_addDuty_92 (fun u H locs h hP hD hS => ?_)
      obtain ⟨r92, mo92⟩ := u
      have hP : va_P D vwCl (wM cI mA mo92) H := hP
      have hD : va_D A (wM cI mA mo92) := hD
      exact zW_iret C (r92, mo92) rfl h hP hD hS (Nat.le_of_ble_eq_true rfl) (Nat.le_of_ble_eq_true rfl) dX3_addDuty_95
    · have h := h.2 c44
      refine lv_iload_n hx hb dX3_addDuty_47 rfl (lv_at hl 3 rfl) ?_
      refine lv_iconst (v := 1) hx hb dX3_addDuty_48 (by decide) ?_
      refine lv_bipush (v := 50) hx hb dX3_addDuty_49 (by decide) ?_
      refine z_RS (As := [.int p2, .int 1, .int 50]) (rest := []) [] C (hG.kept hS.1 hS.2.1).none hP (c_X3_isFrom hfl hs0 D cI cB cJ p2 1 50 h) q66 v_X3_isFrom rfl rfl ⟨(Nat.le_of_ble_eq_true rfl), (Nat.le_of_ble_eq_true rfl)⟩ ⟨(Nat.le_of_ble_eq_true rfl), (Nat.le_of_ble_eq_true rfl)⟩ hl.1 rfl (lv_room (Nat.le_of_ble_eq_true rfl)) dX3_addDuty_51 (fun r51 h => ?_)
      refine lv_if_eq (tgt := 90) hx hb dX3_addDuty_54 (by decide) (fun c54 => ?_) (fun c54 => ?_)
      · have h := h.1 c54
        refine lv_aload_n hx hb dX3_addDuty_90 rfl (lv_at hl 0 rfl) ?_
        refine lv_iconst (v := 2) hx hb dX3_addDuty_91 (by decide) ?_
        refine z_WV (As := [.int 2]) (rest := []) (wr := ([] : va_W)) (wN := (fun u : Int32 × MS => wM cI mA u.2)) [0, 1, 2, 3, 4, 5, 6, 7, 8, 9] [] [0, 1, 2, 3, 4, 5, 6, 7, 8, 9] C hG hA hP hD hS (c_X3_no hfl hs0 D cI cB cJ mA mo_ 2 h) q122 v_X3_no rfl rfl ⟨by decide, by decide, by decide⟩ (by decide) (fun _ => rfl) rfl rfl rfl ⟨(Nat.le_of_ble_eq_true rfl), (Nat.le_of_ble_eq_true rfl)⟩ ⟨(Nat.le_of_ble_eq_true rfl), (Nat.le_of_ble_eq_true rfl)⟩ hl.1 rfl (lv_room (Nat.le_of_ble_eq_true rfl)) dX3_addDuty_92 (fun u H locs h hP hD hS => ?_)
        obtain ⟨r92, mo92⟩ := u
        have hP : va_P D vwCl (wM cI mA mo92) H := hP
        have hD : va_D A (wM cI mA mo92) := hD
        exact zW_iret C (r92, mo92) rfl h hP hD hS (Nat.le_of_ble_eq_true rfl) (Nat.le_of_ble_eq_true rfl) dX3_addDuty_95
      · have h := h.2 c54
        refine lv_iload hx hb dX3_addDuty_57 (lv_at hl 4 rfl) ?_
        refine lv_iconst (v := 1) hx hb dX3_addDuty_59 (by decide) ?_
        refine lv_bipush (v := 30) hx hb dX3_addDuty_60 (by decide) ?_
        refine z_RS (As := [.int p3, .int 1, .int 30]) (rest := []) [] C (hG.kept hS.1 hS.2.1).none hP (c_X3_isFrom hfl hs0 D cI cB cJ p3 1 30 h) q66 v_X3_isFrom rfl rfl ⟨(Nat.le_of_ble_eq_true rfl), (Nat.le_of_ble_eq_true rfl)⟩ ⟨(Nat.le_of_ble_eq_true rfl), (Nat.le_of_ble_eq_true rfl)⟩ hl.1 rfl (lv_room (Nat.le_of_ble_eq_true rfl)) dX3_addDuty_62 (fun r62 h => ?_)
        refine lv_if_eq (tgt := 90) hx hb dX3_addDuty_65 (by decide) (fun c65 => ?_) (fun c65 => ?_)
        · have h := h.1 c65
          refine lv_aload_n hx hb dX3_addDuty_90 rfl (lv_at hl 0 rfl) ?_
          refine lv_iconst (v := 2) hx hb dX3_addDuty_91 (by decide) ?_
          refine z_WV (As := [.int 2]) (rest := []) (wr := ([] : va_W)) (wN := (fun u : Int32 × MS => wM cI mA u.2)) [0, 1, 2, 3, 4, 5, 6, 7, 8, 9] [] [0, 1, 2, 3, 4, 5, 6, 7, 8, 9] C hG hA hP hD hS (c_X3_no hfl hs0 D cI cB cJ mA mo_ 2 h) q122 v_X3_no rfl rfl ⟨by decide, by decide, by decide⟩ (by decide) (fun _ => rfl) rfl rfl rfl ⟨(Nat.le_of_ble_eq_true rfl), (Nat.le_of_ble_eq_true rfl)⟩ ⟨(Nat.le_of_ble_eq_true rfl), (Nat.le_of_ble_eq_true rfl)⟩ hl.1 rfl (lv_room (Nat.le_of_ble_eq_true rfl)) dX3_addDuty_92 (fun u H locs h hP hD hS => ?_)
          obtain ⟨r92, mo92⟩ := u
          have hP : va_P D vwCl (wM cI mA mo92) H := hP
          have hD : va_D A (wM cI mA mo92) := hD
          exact zW_iret C (r92, mo92) rfl h hP hD hS (Nat.le_of_ble_eq_true rfl) (Nat.le_of_ble_eq_true rfl) dX3_addDuty_95
        · have h := h.2 c65
          refine lv_iload hx hb dX3_addDuty_68 (lv_at hl 5 rfl) ?_
          refine lv_iconst (v := 0) hx hb dX3_addDuty_70 (by decide) ?_
          refine lv_bipush (v := 10) hx hb dX3_addDuty_71 (by decide) ?_
          refine z_RS (As := [.int p4, .int 0, .int 10]) (rest := []) [] C (hG.kept hS.1 hS.2.1).none hP (c_X3_isFrom hfl hs0 D cI cB cJ p4 0 10 h) q66 v_X3_isFrom rfl rfl ⟨(Nat.le_of_ble_eq_true rfl), (Nat.le_of_ble_eq_true rfl)⟩ ⟨(Nat.le_of_ble_eq_true rfl), (Nat.le_of_ble_eq_true rfl)⟩ hl.1 rfl (lv_room (Nat.le_of_ble_eq_true rfl)) dX3_addDuty_73 (fun r73 h => ?_)
          refine lv_if_eq (tgt := 90) hx hb dX3_addDuty_76 (by decide) (fun c76 => ?_) (fun c76 => ?_)
          · have h := h.1 c76
            refine lv_aload_n hx hb dX3_addDuty_90 rfl (lv_at hl 0 rfl) ?_
            refine lv_iconst (v := 2) hx hb dX3_addDuty_91 (by decide) ?_
            refine z_WV (As := [.int 2]) (rest := []) (wr := ([] : va_W)) (wN := (fun u : Int32 × MS => wM cI mA u.2)) [0, 1, 2, 3, 4, 5, 6, 7, 8, 9] [] [0, 1, 2, 3, 4, 5, 6, 7, 8, 9] C hG hA hP hD hS (c_X3_no hfl hs0 D cI cB cJ mA mo_ 2 h) q122 v_X3_no rfl rfl ⟨by decide, by decide, by decide⟩ (by decide) (fun _ => rfl) rfl rfl rfl ⟨(Nat.le_of_ble_eq_true rfl), (Nat.le_of_ble_eq_true rfl)⟩ ⟨(Nat.le_of_ble_eq_true rfl), (Nat.le_of_ble_eq_true rfl)⟩ hl.1 rfl (lv_room (Nat.le_of_ble_eq_true rfl)) dX3_addDuty_92 (fun u H locs h hP hD hS => ?_)
            obtain ⟨r92, mo92⟩ := u
            have hP : va_P D vwCl (wM cI mA mo92) H := hP
            have hD : va_D A (wM cI mA mo92) := hD
            exact zW_iret C (r92, mo92) rfl h hP hD hS (Nat.le_of_ble_eq_true rfl) (Nat.le_of_ble_eq_true rfl) dX3_addDuty_95
          · have h := h.2 c76
            refine lv_iload hx hb dX3_addDuty_79 (lv_at hl 6 rfl) ?_
            refine lv_iconst (v := 0) hx hb dX3_addDuty_81 (by decide) ?_
            refine lv_bipush (v := 20) hx hb dX3_addDuty_82 (by decide) ?_
            refine z_RS (As := [.int p5, .int 0, .int 20]) (rest := []) [] C (hG.kept hS.1 hS.2.1).none hP (c_X3_isFrom hfl hs0 D cI cB cJ p5 0 20 h) q66 v_X3_isFrom rfl rfl ⟨(Nat.le_of_ble_eq_true rfl), (Nat.le_of_ble_eq_true rfl)⟩ ⟨(Nat.le_of_ble_eq_true rfl), (Nat.le_of_ble_eq_true rfl)⟩ hl.1 rfl (lv_room (Nat.le_of_ble_eq_true rfl)) dX3_addDuty_84 (fun r84 h => ?_)
            refine lv_if_ne (tgt := 96) hx hb dX3_addDuty_87 (by decide) (fun c87 => ?_) (fun c87 => ?_)
            · have h := h.2 c87
              refine lv_aload_n hx hb dX3_addDuty_96 rfl (lv_at hl 0 rfl) ?_
              refine z_get C f_X3_55 hP (q0 := 0) rfl rfl dX3_addDuty_97 ?_
              refine lv_bipush (v := 20) hx hb dX3_addDuty_100 (by decide) ?_
              refine lv_icmp_eq (tgt := 121) hx hb dX3_addDuty_102 (by decide) (fun c102 => ?_) (fun c102 => ?_)
              · have h := h.1 c102
                refine lv_aload_n hx hb dX3_addDuty_121 rfl (lv_at hl 0 rfl) ?_
                refine lv_iconst (v := 3) hx hb dX3_addDuty_122 (by decide) ?_
                refine z_WV (As := [.int 3]) (rest := []) (wr := ([] : va_W)) (wN := (fun u : Int32 × MS => wM cI mA u.2)) [0, 1, 2, 3, 4, 5, 6, 7, 8, 9] [] [0, 1, 2, 3, 4, 5, 6, 7, 8, 9] C hG hA hP hD hS (c_X3_no hfl hs0 D cI cB cJ mA mo_ 3 h) q122 v_X3_no rfl rfl ⟨by decide, by decide, by decide⟩ (by decide) (fun _ => rfl) rfl rfl rfl ⟨(Nat.le_of_ble_eq_true rfl), (Nat.le_of_ble_eq_true rfl)⟩ ⟨(Nat.le_of_ble_eq_true rfl), (Nat.le_of_ble_eq_true rfl)⟩ hl.1 rfl (lv_room (Nat.le_of_ble_eq_true rfl)) dX3_addDuty_123 (fun u H locs h hP hD hS => ?_)
                obtain ⟨r123, mo123⟩ := u
                have hP : va_P D vwCl (wM cI mA mo123) H := hP
                have hD : va_D A (wM cI mA mo123) := hD
                exact zW_iret C (r123, mo123) rfl h hP hD hS (Nat.le_of_ble_eq_true rfl) (Nat.le_of_ble_eq_true rfl) dX3_addDuty_126
              · have h := h.2 c102
                refine lv_iload hx hb dX3_addDuty_105 (lv_at hl 7 rfl) ?_
                refine lv_iconst (v := (-1)) hx hb dX3_addDuty_107 (by decide) ?_
                refine lv_icmp_eq (tgt := 127) hx hb dX3_addDuty_108 (by decide) (fun c108 => ?_) (fun c108 => ?_)
                · have h := h.1 c108
                  refine W.widen (k := 0) (n := 0) (Nat.le_of_ble_eq_true rfl) (Nat.le_of_ble_eq_true rfl) ?_
                  exact k127 mo_  _ _ hP hD hS _ (lv_sub hl [0, 1, 2, 3, 4, 5, 6, 7] rfl) h
                · have h := h.2 c108
                  refine lv_aload_n hx hb dX3_addDuty_111 rfl (lv_at hl 0 rfl) ?_
                  refine lv_iload hx hb dX3_addDuty_112 (lv_at hl 7 rfl) ?_
                  refine z_RV (As := [.int p6]) (rest := []) [0, 1, 2, 3, 4, 5, 6, 7, 8, 9] C (hG.kept hS.1 hS.2.1).none hP (c_X3_state hfl hs0 D cI cB cJ mA mo_ p6 h) q74 v_X3_state rfl rfl rfl rfl ⟨(Nat.le_of_ble_eq_true rfl), (Nat.le_of_ble_eq_true rfl)⟩ ⟨(Nat.le_of_ble_eq_true rfl), (Nat.le_of_ble_eq_true rfl)⟩ hl.1 rfl (lv_room (Nat.le_of_ble_eq_true rfl)) dX3_addDuty_114 (fun r114 h => ?_)
                  refine lv_iconst (v := 3) hx hb dX3_addDuty_117 (by decide) ?_
                  refine lv_icmp_le (tgt := 127) hx hb dX3_addDuty_118 (by decide) (fun c118 => ?_) (fun c118 => ?_)
                  · have h := h.1 c118
                    refine W.widen (k := 0) (n := 0) (Nat.le_of_ble_eq_true rfl) (Nat.le_of_ble_eq_true rfl) ?_
                    exact k127 mo_  _ _ hP hD hS _ (lv_sub hl [0, 1, 2, 3, 4, 5, 6, 7] rfl) h
                  · have h := h.2 c118
                    refine lv_aload_n hx hb dX3_addDuty_121 rfl (lv_at hl 0 rfl) ?_
                    refine lv_iconst (v := 3) hx hb dX3_addDuty_122 (by decide) ?_
                    refine z_WV (As := [.int 3]) (rest := []) (wr := ([] : va_W)) (wN := (fun u : Int32 × MS => wM cI mA u.2)) [0, 1, 2, 3, 4, 5, 6, 7, 8, 9] [] [0, 1, 2, 3, 4, 5, 6, 7, 8, 9] C hG hA hP hD hS (c_X3_no hfl hs0 D cI cB cJ mA mo_ 3 h) q122 v_X3_no rfl rfl ⟨by decide, by decide, by decide⟩ (by decide) (fun _ => rfl) rfl rfl rfl ⟨(Nat.le_of_ble_eq_true rfl), (Nat.le_of_ble_eq_true rfl)⟩ ⟨(Nat.le_of_ble_eq_true rfl), (Nat.le_of_ble_eq_true rfl)⟩ hl.1 rfl (lv_room (Nat.le_of_ble_eq_true rfl)) dX3_addDuty_123 (fun u H locs h hP hD hS => ?_)
                    obtain ⟨r123, mo123⟩ := u
                    have hP : va_P D vwCl (wM cI mA mo123) H := hP
                    have hD : va_D A (wM cI mA mo123) := hD
                    exact zW_iret C (r123, mo123) rfl h hP hD hS (Nat.le_of_ble_eq_true rfl) (Nat.le_of_ble_eq_true rfl) dX3_addDuty_126
            · have h := h.1 c87
              refine lv_aload_n hx hb dX3_addDuty_90 rfl (lv_at hl 0 rfl) ?_
              refine lv_iconst (v := 2) hx hb dX3_addDuty_91 (by decide) ?_
              refine z_WV (As := [.int 2]) (rest := []) (wr := ([] : va_W)) (wN := (fun u : Int32 × MS => wM cI mA u.2)) [0, 1, 2, 3, 4, 5, 6, 7, 8, 9] [] [0, 1, 2, 3, 4, 5, 6, 7, 8, 9] C hG hA hP hD hS (c_X3_no hfl hs0 D cI cB cJ mA mo_ 2 h) q122 v_X3_no rfl rfl ⟨by decide, by decide, by decide⟩ (by decide) (fun _ => rfl) rfl rfl rfl ⟨(Nat.le_of_ble_eq_true rfl), (Nat.le_of_ble_eq_true rfl)⟩ ⟨(Nat.le_of_ble_eq_true rfl), (Nat.le_of_ble_eq_true rfl)⟩ hl.1 rfl (lv_room (Nat.le_of_ble_eq_true rfl)) dX3_addDuty_92 (fun u H locs h hP hD hS => ?_)
              obtain ⟨r92, mo92⟩ := u
              have hP : va_P D vwCl (wM cI mA mo92) H := hP
              have hD : va_D A (wM cI mA mo92) := hD
              exact zW_iret C (r92, mo92) rfl h hP hD hS (Nat.le_of_ble_eq_true rfl) (Nat.le_of_ble_eq_true rfl) dX3_addDuty_95
  unfold wpX3_addDuty at h
  refine lv_aload_n hx hb dX3_addDuty_0 rfl (lv_at hl 0 rfl) ?_
  refine lv_iconst (v := 0) hx hb dX3_addDuty_1 (by decide) ?_
  refine z_put C f_X3_44 zt_X3 rfl rfl rfl rfl hP hD hS (q0 := 0) rfl (Nat.le_of_ble_eq_true rfl) dX3_addDuty_2 (fun H locs hP hD hS => ?_)
  have hP : va_P D vwCl (wM cI mA (0, mo.2.1, mo.2.2.1, mo.2.2.2.1, mo.2.2.2.2.1, mo.2.2.2.2.2.1, mo.2.2.2.2.2.2.1, mo.2.2.2.2.2.2.2.1, mo.2.2.2.2.2.2.2.2.1, mo.2.2.2.2.2.2.2.2.2.1, mo.2.2.2.2.2.2.2.2.2.2.1, mo.2.2.2.2.2.2.2.2.2.2.2)) H := hP
  have hD : va_D A (wM cI mA (0, mo.2.1, mo.2.2.1, mo.2.2.2.1, mo.2.2.2.2.1, mo.2.2.2.2.2.1, mo.2.2.2.2.2.2.1, mo.2.2.2.2.2.2.2.1, mo.2.2.2.2.2.2.2.2.1, mo.2.2.2.2.2.2.2.2.2.1, mo.2.2.2.2.2.2.2.2.2.2.1, mo.2.2.2.2.2.2.2.2.2.2.2)) := hD
  refine lv_aload_n hx hb dX3_addDuty_5 rfl (lv_at hl 0 rfl) ?_
  refine lv_iload_n hx hb dX3_addDuty_6 rfl (lv_at hl 1 rfl) ?_
  refine z_RV (As := [.int p0]) (rest := []) [0, 1, 2, 3, 4, 5, 6, 7, 8, 9] C (hG.kept hS.1 hS.2.1).none hP (c_X3_isParty hfl hs0 D cI cB cJ mA (0, mo.2.1, mo.2.2.1, mo.2.2.2.1, mo.2.2.2.2.1, mo.2.2.2.2.2.1, mo.2.2.2.2.2.2.1, mo.2.2.2.2.2.2.2.1, mo.2.2.2.2.2.2.2.2.1, mo.2.2.2.2.2.2.2.2.2.1, mo.2.2.2.2.2.2.2.2.2.2.1, mo.2.2.2.2.2.2.2.2.2.2.2) p0 h) q126 v_X3_isParty rfl rfl rfl rfl ⟨(Nat.le_of_ble_eq_true rfl), (Nat.le_of_ble_eq_true rfl)⟩ ⟨(Nat.le_of_ble_eq_true rfl), (Nat.le_of_ble_eq_true rfl)⟩ hl.1 rfl (lv_room (Nat.le_of_ble_eq_true rfl)) dX3_addDuty_7 (fun r7 h => ?_)
  refine lv_if_eq (tgt := 36) hx hb dX3_addDuty_10 (by decide) (fun c10 => ?_) (fun c10 => ?_)
  · have h := h.1 c10
    refine lv_aload_n hx hb dX3_addDuty_36 rfl (lv_at hl 0 rfl) ?_
    refine lv_iconst (v := 1) hx hb dX3_addDuty_37 (by decide) ?_
    refine z_WV (As := [.int 1]) (rest := []) (wr := ([] : va_W)) (wN := (fun u : Int32 × MS => wM cI mA u.2)) [0, 1, 2, 3, 4, 5, 6, 7, 8, 9] [] [0, 1, 2, 3, 4, 5, 6, 7, 8, 9] C hG hA hP hD hS (c_X3_no hfl hs0 D cI cB cJ mA (0, mo.2.1, mo.2.2.1, mo.2.2.2.1, mo.2.2.2.2.1, mo.2.2.2.2.2.1, mo.2.2.2.2.2.2.1, mo.2.2.2.2.2.2.2.1, mo.2.2.2.2.2.2.2.2.1, mo.2.2.2.2.2.2.2.2.2.1, mo.2.2.2.2.2.2.2.2.2.2.1, mo.2.2.2.2.2.2.2.2.2.2.2) 1 h) q122 v_X3_no rfl rfl ⟨by decide, by decide, by decide⟩ (by decide) (fun _ => rfl) rfl rfl rfl ⟨(Nat.le_of_ble_eq_true rfl), (Nat.le_of_ble_eq_true rfl)⟩ ⟨(Nat.le_of_ble_eq_true rfl), (Nat.le_of_ble_eq_true rfl)⟩ hl.1 rfl (lv_room (Nat.le_of_ble_eq_true rfl)) dX3_addDuty_38 (fun u H locs h hP hD hS => ?_)
    obtain ⟨r38, mo38⟩ := u
    have hP : va_P D vwCl (wM cI mA mo38) H := hP
    have hD : va_D A (wM cI mA mo38) := hD
    exact zW_iret C (r38, mo38) rfl h hP hD hS (Nat.le_of_ble_eq_true rfl) (Nat.le_of_ble_eq_true rfl) dX3_addDuty_41
  · have h := h.2 c10
    refine lv_aload_n hx hb dX3_addDuty_13 rfl (lv_at hl 0 rfl) ?_
    refine lv_iload_n hx hb dX3_addDuty_14 rfl (lv_at hl 2 rfl) ?_
    refine z_RV (As := [.int p1]) (rest := []) [0, 1, 2, 3, 4, 5, 6, 7, 8, 9] C (hG.kept hS.1 hS.2.1).none hP (c_X3_isParty hfl hs0 D cI cB cJ mA (0, mo.2.1, mo.2.2.1, mo.2.2.2.1, mo.2.2.2.2.1, mo.2.2.2.2.2.1, mo.2.2.2.2.2.2.1, mo.2.2.2.2.2.2.2.1, mo.2.2.2.2.2.2.2.2.1, mo.2.2.2.2.2.2.2.2.2.1, mo.2.2.2.2.2.2.2.2.2.2.1, mo.2.2.2.2.2.2.2.2.2.2.2) p1 h) q126 v_X3_isParty rfl rfl rfl rfl ⟨(Nat.le_of_ble_eq_true rfl), (Nat.le_of_ble_eq_true rfl)⟩ ⟨(Nat.le_of_ble_eq_true rfl), (Nat.le_of_ble_eq_true rfl)⟩ hl.1 rfl (lv_room (Nat.le_of_ble_eq_true rfl)) dX3_addDuty_15 (fun r15 h => ?_)
    refine lv_if_eq (tgt := 36) hx hb dX3_addDuty_18 (by decide) (fun c18 => ?_) (fun c18 => ?_)
    · have h := h.1 c18
      refine lv_aload_n hx hb dX3_addDuty_36 rfl (lv_at hl 0 rfl) ?_
      refine lv_iconst (v := 1) hx hb dX3_addDuty_37 (by decide) ?_
      refine z_WV (As := [.int 1]) (rest := []) (wr := ([] : va_W)) (wN := (fun u : Int32 × MS => wM cI mA u.2)) [0, 1, 2, 3, 4, 5, 6, 7, 8, 9] [] [0, 1, 2, 3, 4, 5, 6, 7, 8, 9] C hG hA hP hD hS (c_X3_no hfl hs0 D cI cB cJ mA (0, mo.2.1, mo.2.2.1, mo.2.2.2.1, mo.2.2.2.2.1, mo.2.2.2.2.2.1, mo.2.2.2.2.2.2.1, mo.2.2.2.2.2.2.2.1, mo.2.2.2.2.2.2.2.2.1, mo.2.2.2.2.2.2.2.2.2.1, mo.2.2.2.2.2.2.2.2.2.2.1, mo.2.2.2.2.2.2.2.2.2.2.2) 1 h) q122 v_X3_no rfl rfl ⟨by decide, by decide, by decide⟩ (by decide) (fun _ => rfl) rfl rfl rfl ⟨(Nat.le_of_ble_eq_true rfl), (Nat.le_of_ble_eq_true rfl)⟩ ⟨(Nat.le_of_ble_eq_true rfl), (Nat.le_of_ble_eq_true rfl)⟩ hl.1 rfl (lv_room (Nat.le_of_ble_eq_true rfl)) dX3_addDuty_38 (fun u H locs h hP hD hS => ?_)
      obtain ⟨r38, mo38⟩ := u
      have hP : va_P D vwCl (wM cI mA mo38) H := hP
      have hD : va_D A (wM cI mA mo38) := hD
      exact zW_iret C (r38, mo38) rfl h hP hD hS (Nat.le_of_ble_eq_true rfl) (Nat.le_of_ble_eq_true rfl) dX3_addDuty_41
    · have h := h.2 c18
      refine lv_iload hx hb dX3_addDuty_21 (lv_at hl 7 rfl) ?_
      refine lv_iconst (v := (-1)) hx hb dX3_addDuty_23 (by decide) ?_
      refine lv_icmp_eq (tgt := 42) hx hb dX3_addDuty_24 (by decide) (fun c24 => ?_) (fun c24 => ?_)
      · have h := h.1 c24
        refine W.widen (k := 0) (n := 0) (Nat.le_of_ble_eq_true rfl) (Nat.le_of_ble_eq_true rfl) ?_
        exact k42 (0, mo.2.1, mo.2.2.1, mo.2.2.2.1, mo.2.2.2.2.1, mo.2.2.2.2.2.1, mo.2.2.2.2.2.2.1, mo.2.2.2.2.2.2.2.1, mo.2.2.2.2.2.2.2.2.1, mo.2.2.2.2.2.2.2.2.2.1, mo.2.2.2.2.2.2.2.2.2.2.1, mo.2.2.2.2.2.2.2.2.2.2.2)  _ _ hP hD hS _ (lv_sub hl [0, 1, 2, 3, 4, 5, 6, 7] rfl) h
      · have h := h.2 c24
        refine lv_aload_n hx hb dX3_addDuty_27 rfl (lv_at hl 0 rfl) ?_
        refine lv_iload hx hb dX3_addDuty_28 (lv_at hl 7 rfl) ?_
        refine z_RV (As := [.int p6]) (rest := []) [0, 1, 2, 3, 4, 5, 6, 7, 8, 9] C (hG.kept hS.1 hS.2.1).none hP (c_X3_isDuty hfl hs0 D cI cB cJ mA (0, mo.2.1, mo.2.2.1, mo.2.2.2.1, mo.2.2.2.2.1, mo.2.2.2.2.2.1, mo.2.2.2.2.2.2.1, mo.2.2.2.2.2.2.2.1, mo.2.2.2.2.2.2.2.2.1, mo.2.2.2.2.2.2.2.2.2.1, mo.2.2.2.2.2.2.2.2.2.2.1, mo.2.2.2.2.2.2.2.2.2.2.2) p6 h) q130 v_X3_isDuty rfl rfl rfl rfl ⟨(Nat.le_of_ble_eq_true rfl), (Nat.le_of_ble_eq_true rfl)⟩ ⟨(Nat.le_of_ble_eq_true rfl), (Nat.le_of_ble_eq_true rfl)⟩ hl.1 rfl (lv_room (Nat.le_of_ble_eq_true rfl)) dX3_addDuty_30 (fun r30 h => ?_)
        refine lv_if_ne (tgt := 42) hx hb dX3_addDuty_33 (by decide) (fun c33 => ?_) (fun c33 => ?_)
        · have h := h.2 c33
          refine W.widen (k := 0) (n := 0) (Nat.le_of_ble_eq_true rfl) (Nat.le_of_ble_eq_true rfl) ?_
          exact k42 (0, mo.2.1, mo.2.2.1, mo.2.2.2.1, mo.2.2.2.2.1, mo.2.2.2.2.2.1, mo.2.2.2.2.2.2.1, mo.2.2.2.2.2.2.2.1, mo.2.2.2.2.2.2.2.2.1, mo.2.2.2.2.2.2.2.2.2.1, mo.2.2.2.2.2.2.2.2.2.2.1, mo.2.2.2.2.2.2.2.2.2.2.2)  _ _ hP hD hS _ (lv_sub hl [0, 1, 2, 3, 4, 5, 6, 7] rfl) h
        · have h := h.1 c33
          refine lv_aload_n hx hb dX3_addDuty_36 rfl (lv_at hl 0 rfl) ?_
          refine lv_iconst (v := 1) hx hb dX3_addDuty_37 (by decide) ?_
          refine z_WV (As := [.int 1]) (rest := []) (wr := ([] : va_W)) (wN := (fun u : Int32 × MS => wM cI mA u.2)) [0, 1, 2, 3, 4, 5, 6, 7, 8, 9] [] [0, 1, 2, 3, 4, 5, 6, 7, 8, 9] C hG hA hP hD hS (c_X3_no hfl hs0 D cI cB cJ mA (0, mo.2.1, mo.2.2.1, mo.2.2.2.1, mo.2.2.2.2.1, mo.2.2.2.2.2.1, mo.2.2.2.2.2.2.1, mo.2.2.2.2.2.2.2.1, mo.2.2.2.2.2.2.2.2.1, mo.2.2.2.2.2.2.2.2.2.1, mo.2.2.2.2.2.2.2.2.2.2.1, mo.2.2.2.2.2.2.2.2.2.2.2) 1 h) q122 v_X3_no rfl rfl ⟨by decide, by decide, by decide⟩ (by decide) (fun _ => rfl) rfl rfl rfl ⟨(Nat.le_of_ble_eq_true rfl), (Nat.le_of_ble_eq_true rfl)⟩ ⟨(Nat.le_of_ble_eq_true rfl), (Nat.le_of_ble_eq_true rfl)⟩ hl.1 rfl (lv_room (Nat.le_of_ble_eq_true rfl)) dX3_addDuty_38 (fun u H locs h hP hD hS => ?_)
          obtain ⟨r38, mo38⟩ := u
          have hP : va_P D vwCl (wM cI mA mo38) H := hP
          have hD : va_D A (wM cI mA mo38) := hD
          exact zW_iret C (r38, mo38) rfl h hP hD hS (Nat.le_of_ble_eq_true rfl) (Nat.le_of_ble_eq_true rfl) dX3_addDuty_41
def wpX3_canPay (post : Int32 → Prop) (mo : MS) (p0 : Int32) : Prop := wpX3_isOpen (fun r2 => (r2 = 0 → post 0) ∧ (¬ r2 = 0 → vp_in p0 20 ∧ (vp_in (2 + (mo.2.2.2.1 p0.toNatClampNeg)) 68 ∧ (wpX3_price (fun r23 => ((mo.2.2.2.2.2.2.2.2.2.2.1 (2 + (mo.2.2.2.1 p0.toNatClampNeg)).toNatClampNeg) < r23 → post 0) ∧ (¬ (mo.2.2.2.2.2.2.2.2.2.2.1 (2 + (mo.2.2.2.1 p0.toNatClampNeg)).toNatClampNeg) < r23 → post 1)) mo p0)))) mo p0
set_option maxHeartbeats 4000000 in
set_option maxRecDepth 100000 in
theorem c_X3_canPay {l : Launch} (hfl : l.stackTraces = false) {s0 : State} (hs0 : zS s0) (D : va_G) (cI cB cJ : ClassId) (mA : Nat → Nat) (mo : MS) (p0 : Int32) {post : Int32 → Prop} (h : wpX3_canPay post mo p0) : zR s0 l D (zty cI cB cJ) yX3_canPay cX3_canPay 2 (some .boolean) 3 [.ref (mA 0), .int p0] (wM cI mA mo) (fun u : Int32 => some (Value.int u)) (fun u : Int32 => post u) := by
  refine zR_intro (by decide +kernel) (Nat.le_of_ble_eq_true rfl) ?_
  intro p e s m below meth c C hP hG ls hl
  have C : zC D (zty cI cB cJ) p s m ([.ref (mA 0), .int p0] : List Value).toArray meth c cX3_canPay RX3 (some .boolean) 2 := C
  have hx := C.1
  have hb := C.2.1
  have hts := C.2.2.1
  have hown := C.2.2.2.1
  have hml := C.2.2.2.2.2.1
  have hK := C.2.2.2.2.2.2.2
  have hl : lv_has ls 2 [(0, .ref (mA 0)), (1, .int p0)] := hl
  unfold wpX3_canPay at h
  refine lv_aload_n hx hb dX3_canPay_0 rfl (lv_at hl 0 rfl) ?_
  refine lv_iload_n hx hb dX3_canPay_1 rfl (lv_at hl 1 rfl) ?_
  refine z_RV (As := [.int p0]) (rest := []) [0, 1, 2, 3, 4, 5, 6, 7, 8, 9] C hG hP (c_X3_isOpen hfl hs0 D cI cB cJ mA mo p0 h) q110 v_X3_isOpen rfl rfl rfl rfl ⟨(Nat.le_of_ble_eq_true rfl), (Nat.le_of_ble_eq_true rfl)⟩ ⟨(Nat.le_of_ble_eq_true rfl), (Nat.le_of_ble_eq_true rfl)⟩ hl.1 rfl (lv_room (Nat.le_of_ble_eq_true rfl)) dX3_canPay_2 (fun r2 h => ?_)
  refine lv_if_eq (tgt := 33) hx hb dX3_canPay_5 (by decide) (fun c5 => ?_) (fun c5 => ?_)
  · have h := h.1 c5
    refine lv_iconst (v := 0) hx hb dX3_canPay_33 (by decide) ?_
    exact zR_zret C rfl 0 rfl h dX3_canPay_34
  · have h := h.2 c5
    refine lv_aload_n hx hb dX3_canPay_8 rfl (lv_at hl 0 rfl) ?_
    refine z_get C f_X3_31 hP (q0 := 0) rfl rfl dX3_canPay_9 ?_
    refine lv_iconst (v := 2) hx hb dX3_canPay_12 (by decide) ?_
    refine lv_aload_n hx hb dX3_canPay_13 rfl (lv_at hl 0 rfl) ?_
    refine z_get C f_X3_9 hP (q0 := 0) rfl rfl dX3_canPay_14 ?_
    refine lv_iload_n hx hb dX3_canPay_17 rfl (lv_at hl 1 rfl) ?_
    obtain ⟨g9, h⟩ := h
    refine va_iald hx hb hK hP 1 0 rfl rfl g9 dX3_canPay_18 ?_
    refine lv_iadd hx hb dX3_canPay_19 ?_
    obtain ⟨g9, h⟩ := h
    refine va_iald hx hb hK hP 8 0 rfl rfl g9 dX3_canPay_20 ?_
    refine lv_aload_n hx hb dX3_canPay_21 rfl (lv_at hl 0 rfl) ?_
    refine lv_iload_n hx hb dX3_canPay_22 rfl (lv_at hl 1 rfl) ?_
    refine z_RV (As := [.int p0]) (rest := [.int (mo.2.2.2.2.2.2.2.2.2.2.1 (2 + (mo.2.2.2.1 p0.toNatClampNeg)).toNatClampNeg)]) [0, 1, 2, 3, 4, 5, 6, 7, 8, 9] C hG hP (c_X3_price hfl hs0 D cI cB cJ mA mo p0 h) q88 v_X3_price rfl rfl rfl rfl ⟨(Nat.le_of_ble_eq_true rfl), (Nat.le_of_ble_eq_true rfl)⟩ ⟨(Nat.le_of_ble_eq_true rfl), (Nat.le_of_ble_eq_true rfl)⟩ hl.1 rfl (lv_room (Nat.le_of_ble_eq_true rfl)) dX3_canPay_23 (fun r23 h => ?_)
    refine lv_icmp_lt (tgt := 33) hx hb dX3_canPay_26 (by decide) (fun c26 => ?_) (fun c26 => ?_)
    · have h := h.1 c26
      refine lv_iconst (v := 0) hx hb dX3_canPay_33 (by decide) ?_
      exact zR_zret C rfl 0 rfl h dX3_canPay_34
    · have h := h.2 c26
      refine lv_iconst (v := 1) hx hb dX3_canPay_29 (by decide) ?_
      refine lv_goto (tgt := 34) hx hb dX3_canPay_30 (by decide) ?_
      exact zR_zret C rfl 1 rfl h dX3_canPay_34
def wpX3_pay (post : Int32 → MS → Prop) (mo : MS) (p0 : Int32) : Prop := wpX3_isDuty (fun r7 => (r7 = 0 → wpX3_no (fun r15 mo15 => post r15 mo15) (0, mo.2.1, mo.2.2.1, mo.2.2.2.1, mo.2.2.2.2.1, mo.2.2.2.2.2.1, mo.2.2.2.2.2.2.1, mo.2.2.2.2.2.2.2.1, mo.2.2.2.2.2.2.2.2.1, mo.2.2.2.2.2.2.2.2.2.1, mo.2.2.2.2.2.2.2.2.2.2.1, mo.2.2.2.2.2.2.2.2.2.2.2) 1) ∧ (¬ r7 = 0 → wpX3_canPay (fun r21 => (r21 = 0 → wpX3_no (fun r29 mo29 => post r29 mo29) (0, mo.2.1, mo.2.2.1, mo.2.2.2.1, mo.2.2.2.2.1, mo.2.2.2.2.2.1, mo.2.2.2.2.2.2.1, mo.2.2.2.2.2.2.2.1, mo.2.2.2.2.2.2.2.2.1, mo.2.2.2.2.2.2.2.2.2.1, mo.2.2.2.2.2.2.2.2.2.2.1, mo.2.2.2.2.2.2.2.2.2.2.2) 2) ∧ (¬ r21 = 0 → wpX3_price (fun r35 => wpX3_paid (fun mo41 => post r35 mo41) (0, mo.2.1, mo.2.2.1, mo.2.2.2.1, mo.2.2.2.2.1, mo.2.2.2.2.2.1, mo.2.2.2.2.2.2.1, mo.2.2.2.2.2.2.2.1, mo.2.2.2.2.2.2.2.2.1, mo.2.2.2.2.2.2.2.2.2.1, mo.2.2.2.2.2.2.2.2.2.2.1, mo.2.2.2.2.2.2.2.2.2.2.2) p0) (0, mo.2.1, mo.2.2.1, mo.2.2.2.1, mo.2.2.2.2.1, mo.2.2.2.2.2.1, mo.2.2.2.2.2.2.1, mo.2.2.2.2.2.2.2.1, mo.2.2.2.2.2.2.2.2.1, mo.2.2.2.2.2.2.2.2.2.1, mo.2.2.2.2.2.2.2.2.2.2.1, mo.2.2.2.2.2.2.2.2.2.2.2) p0)) (0, mo.2.1, mo.2.2.1, mo.2.2.2.1, mo.2.2.2.2.1, mo.2.2.2.2.2.1, mo.2.2.2.2.2.2.1, mo.2.2.2.2.2.2.2.1, mo.2.2.2.2.2.2.2.2.1, mo.2.2.2.2.2.2.2.2.2.1, mo.2.2.2.2.2.2.2.2.2.2.1, mo.2.2.2.2.2.2.2.2.2.2.2) p0)) (0, mo.2.1, mo.2.2.1, mo.2.2.2.1, mo.2.2.2.2.1, mo.2.2.2.2.2.1, mo.2.2.2.2.2.2.1, mo.2.2.2.2.2.2.2.1, mo.2.2.2.2.2.2.2.2.1, mo.2.2.2.2.2.2.2.2.2.1, mo.2.2.2.2.2.2.2.2.2.2.1, mo.2.2.2.2.2.2.2.2.2.2.2) p0
set_option maxHeartbeats 4000000 in
set_option maxRecDepth 100000 in
theorem c_X3_pay {l : Launch} (hfl : l.stackTraces = false) {s0 : State} (hs0 : zS s0) (D : va_G) (cI cB cJ : ClassId) (mA : Nat → Nat) (mo : MS) (p0 : Int32) {post : Int32 → MS → Prop} (h : wpX3_pay post mo p0) : zW s0 l D (zty cI cB cJ) yX3_pay cX3_pay 3 (some .int) 4 0 0 [.ref (mA 0), .int p0] (wM cI mA mo) (fun u : Int32 × MS => some (Value.int u.1)) (fun u : Int32 × MS => post u.1 u.2) (fun u : Int32 × MS => wM cI mA u.2) := by
  refine zW_intro (by decide +kernel) (Nat.le_of_ble_eq_true rfl) ?_
  intro p e s m below meth c A C hnm hA hG hP hD hS ls hl
  have C : zC D (zty cI cB cJ) p s m ([.ref (mA 0), .int p0] : List Value).toArray meth c cX3_pay RX3 (some .int) 3 := C
  have hx := C.1
  have hb := C.2.1
  have hts := C.2.2.1
  have hown := C.2.2.2.1
  have hml := C.2.2.2.2.2.1
  have hK := C.2.2.2.2.2.2.2
  have hl : lv_has ls 3 [(0, .ref (mA 0)), (1, .int p0)] := hl
  have hP : va_P D vwCl (wM cI mA mo) s.heap := hP
  have hD : va_D A (wM cI mA mo) := hD
  unfold wpX3_pay at h
  refine lv_aload_n hx hb dX3_pay_0 rfl (lv_at hl 0 rfl) ?_
  refine lv_iconst (v := 0) hx hb dX3_pay_1 (by decide) ?_
  refine z_put C f_X3_44 zt_X3 rfl rfl rfl rfl hP hD hS (q0 := 0) rfl (Nat.le_of_ble_eq_true rfl) dX3_pay_2 (fun H locs hP hD hS => ?_)
  have hP : va_P D vwCl (wM cI mA (0, mo.2.1, mo.2.2.1, mo.2.2.2.1, mo.2.2.2.2.1, mo.2.2.2.2.2.1, mo.2.2.2.2.2.2.1, mo.2.2.2.2.2.2.2.1, mo.2.2.2.2.2.2.2.2.1, mo.2.2.2.2.2.2.2.2.2.1, mo.2.2.2.2.2.2.2.2.2.2.1, mo.2.2.2.2.2.2.2.2.2.2.2)) H := hP
  have hD : va_D A (wM cI mA (0, mo.2.1, mo.2.2.1, mo.2.2.2.1, mo.2.2.2.2.1, mo.2.2.2.2.2.1, mo.2.2.2.2.2.2.1, mo.2.2.2.2.2.2.2.1, mo.2.2.2.2.2.2.2.2.1, mo.2.2.2.2.2.2.2.2.2.1, mo.2.2.2.2.2.2.2.2.2.2.1, mo.2.2.2.2.2.2.2.2.2.2.2)) := hD
  refine lv_aload_n hx hb dX3_pay_5 rfl (lv_at hl 0 rfl) ?_
  refine lv_iload_n hx hb dX3_pay_6 rfl (lv_at hl 1 rfl) ?_
  refine z_RV (As := [.int p0]) (rest := []) [0, 1, 2, 3, 4, 5, 6, 7, 8, 9] C (hG.kept hS.1 hS.2.1).none hP (c_X3_isDuty hfl hs0 D cI cB cJ mA (0, mo.2.1, mo.2.2.1, mo.2.2.2.1, mo.2.2.2.2.1, mo.2.2.2.2.2.1, mo.2.2.2.2.2.2.1, mo.2.2.2.2.2.2.2.1, mo.2.2.2.2.2.2.2.2.1, mo.2.2.2.2.2.2.2.2.2.1, mo.2.2.2.2.2.2.2.2.2.2.1, mo.2.2.2.2.2.2.2.2.2.2.2) p0 h) q130 v_X3_isDuty rfl rfl rfl rfl ⟨(Nat.le_of_ble_eq_true rfl), (Nat.le_of_ble_eq_true rfl)⟩ ⟨(Nat.le_of_ble_eq_true rfl), (Nat.le_of_ble_eq_true rfl)⟩ hl.1 rfl (lv_room (Nat.le_of_ble_eq_true rfl)) dX3_pay_7 (fun r7 h => ?_)
  refine lv_if_ne (tgt := 19) hx hb dX3_pay_10 (by decide) (fun c10 => ?_) (fun c10 => ?_)
  · have h := h.2 c10
    refine lv_aload_n hx hb dX3_pay_19 rfl (lv_at hl 0 rfl) ?_
    refine lv_iload_n hx hb dX3_pay_20 rfl (lv_at hl 1 rfl) ?_
    refine z_RV (As := [.int p0]) (rest := []) [0, 1, 2, 3, 4, 5, 6, 7, 8, 9] C (hG.kept hS.1 hS.2.1).none hP (c_X3_canPay hfl hs0 D cI cB cJ mA (0, mo.2.1, mo.2.2.1, mo.2.2.2.1, mo.2.2.2.2.1, mo.2.2.2.2.2.1, mo.2.2.2.2.2.2.1, mo.2.2.2.2.2.2.2.1, mo.2.2.2.2.2.2.2.2.1, mo.2.2.2.2.2.2.2.2.2.1, mo.2.2.2.2.2.2.2.2.2.2.1, mo.2.2.2.2.2.2.2.2.2.2.2) p0 h) q134 v_X3_canPay rfl rfl rfl rfl ⟨(Nat.le_of_ble_eq_true rfl), (Nat.le_of_ble_eq_true rfl)⟩ ⟨(Nat.le_of_ble_eq_true rfl), (Nat.le_of_ble_eq_true rfl)⟩ hl.1 rfl (lv_room (Nat.le_of_ble_eq_true rfl)) dX3_pay_21 (fun r21 h => ?_)
    refine lv_if_ne (tgt := 33) hx hb dX3_pay_24 (by decide) (fun c24 => ?_) (fun c24 => ?_)
    · have h := h.2 c24
      refine lv_aload_n hx hb dX3_pay_33 rfl (lv_at hl 0 rfl) ?_
      refine lv_iload_n hx hb dX3_pay_34 rfl (lv_at hl 1 rfl) ?_
      refine z_RV (As := [.int p0]) (rest := []) [0, 1, 2, 3, 4, 5, 6, 7, 8, 9] C (hG.kept hS.1 hS.2.1).none hP (c_X3_price hfl hs0 D cI cB cJ mA (0, mo.2.1, mo.2.2.1, mo.2.2.2.1, mo.2.2.2.2.1, mo.2.2.2.2.2.1, mo.2.2.2.2.2.2.1, mo.2.2.2.2.2.2.2.1, mo.2.2.2.2.2.2.2.2.1, mo.2.2.2.2.2.2.2.2.2.1, mo.2.2.2.2.2.2.2.2.2.2.1, mo.2.2.2.2.2.2.2.2.2.2.2) p0 h) q88 v_X3_price rfl rfl rfl rfl ⟨(Nat.le_of_ble_eq_true rfl), (Nat.le_of_ble_eq_true rfl)⟩ ⟨(Nat.le_of_ble_eq_true rfl), (Nat.le_of_ble_eq_true rfl)⟩ hl.1 rfl (lv_room (Nat.le_of_ble_eq_true rfl)) dX3_pay_35 (fun r35 h => ?_)
      refine lv_istore_n (lv' := [(2, .int r35), (0, .ref (mA 0)), (1, .int p0)]) hx hb dX3_pay_38 rfl hl (by decide) rfl (fun ls hl => ?_)
      refine lv_aload_n hx hb dX3_pay_39 rfl (lv_at hl 1 rfl) ?_
      refine lv_iload_n hx hb dX3_pay_40 rfl (lv_at hl 2 rfl) ?_
      refine z_WV (As := [.int p0]) (rest := []) (wr := ([] : va_W)) (wN := (fun u : MS => wM cI mA u)) [0, 1, 2, 3, 4, 5, 6, 7, 8, 9] [] [0, 1, 2, 3, 4, 5, 6, 7, 8, 9] C hG hA hP hD hS (c_X3_paid hfl hs0 D cI cB cJ mA (0, mo.2.1, mo.2.2.1, mo.2.2.2.1, mo.2.2.2.2.1, mo.2.2.2.2.2.1, mo.2.2.2.2.2.2.1, mo.2.2.2.2.2.2.2.1, mo.2.2.2.2.2.2.2.2.1, mo.2.2.2.2.2.2.2.2.2.1, mo.2.2.2.2.2.2.2.2.2.2.1, mo.2.2.2.2.2.2.2.2.2.2.2) p0 h) q138 v_X3_paid rfl rfl ⟨by decide, by decide, by decide⟩ (by decide) (fun _ => rfl) rfl rfl rfl ⟨(Nat.le_of_ble_eq_true rfl), (Nat.le_of_ble_eq_true rfl)⟩ ⟨(Nat.le_of_ble_eq_true rfl), (Nat.le_of_ble_eq_true rfl)⟩ hl.1 rfl (lv_room (Nat.le_of_ble_eq_true rfl)) dX3_pay_41 (fun u H locs h hP hD hS => ?_)
      obtain ⟨mo41, rfl⟩ : ∃ z, z = u := ⟨_, rfl⟩
      have hP : va_P D vwCl (wM cI mA mo41) H := hP
      have hD : va_D A (wM cI mA mo41) := hD
      refine lv_iload_n hx hb dX3_pay_44 rfl (lv_at hl 0 rfl) ?_
      exact zW_iret C (r35, mo41) rfl h hP hD hS (Nat.le_of_ble_eq_true rfl) (Nat.le_of_ble_eq_true rfl) dX3_pay_45
    · have h := h.1 c24
      refine lv_aload_n hx hb dX3_pay_27 rfl (lv_at hl 0 rfl) ?_
      refine lv_iconst (v := 2) hx hb dX3_pay_28 (by decide) ?_
      refine z_WV (As := [.int 2]) (rest := []) (wr := ([] : va_W)) (wN := (fun u : Int32 × MS => wM cI mA u.2)) [0, 1, 2, 3, 4, 5, 6, 7, 8, 9] [] [0, 1, 2, 3, 4, 5, 6, 7, 8, 9] C hG hA hP hD hS (c_X3_no hfl hs0 D cI cB cJ mA (0, mo.2.1, mo.2.2.1, mo.2.2.2.1, mo.2.2.2.2.1, mo.2.2.2.2.2.1, mo.2.2.2.2.2.2.1, mo.2.2.2.2.2.2.2.1, mo.2.2.2.2.2.2.2.2.1, mo.2.2.2.2.2.2.2.2.2.1, mo.2.2.2.2.2.2.2.2.2.2.1, mo.2.2.2.2.2.2.2.2.2.2.2) 2 h) q122 v_X3_no rfl rfl ⟨by decide, by decide, by decide⟩ (by decide) (fun _ => rfl) rfl rfl rfl ⟨(Nat.le_of_ble_eq_true rfl), (Nat.le_of_ble_eq_true rfl)⟩ ⟨(Nat.le_of_ble_eq_true rfl), (Nat.le_of_ble_eq_true rfl)⟩ hl.1 rfl (lv_room (Nat.le_of_ble_eq_true rfl)) dX3_pay_29 (fun u H locs h hP hD hS => ?_)
      obtain ⟨r29, mo29⟩ := u
      have hP : va_P D vwCl (wM cI mA mo29) H := hP
      have hD : va_D A (wM cI mA mo29) := hD
      exact zW_iret C (r29, mo29) rfl h hP hD hS (Nat.le_of_ble_eq_true rfl) (Nat.le_of_ble_eq_true rfl) dX3_pay_32
  · have h := h.1 c10
    refine lv_aload_n hx hb dX3_pay_13 rfl (lv_at hl 0 rfl) ?_
    refine lv_iconst (v := 1) hx hb dX3_pay_14 (by decide) ?_
    refine z_WV (As := [.int 1]) (rest := []) (wr := ([] : va_W)) (wN := (fun u : Int32 × MS => wM cI mA u.2)) [0, 1, 2, 3, 4, 5, 6, 7, 8, 9] [] [0, 1, 2, 3, 4, 5, 6, 7, 8, 9] C hG hA hP hD hS (c_X3_no hfl hs0 D cI cB cJ mA (0, mo.2.1, mo.2.2.1, mo.2.2.2.1, mo.2.2.2.2.1, mo.2.2.2.2.2.1, mo.2.2.2.2.2.2.1, mo.2.2.2.2.2.2.2.1, mo.2.2.2.2.2.2.2.2.1, mo.2.2.2.2.2.2.2.2.2.1, mo.2.2.2.2.2.2.2.2.2.2.1, mo.2.2.2.2.2.2.2.2.2.2.2) 1 h) q122 v_X3_no rfl rfl ⟨by decide, by decide, by decide⟩ (by decide) (fun _ => rfl) rfl rfl rfl ⟨(Nat.le_of_ble_eq_true rfl), (Nat.le_of_ble_eq_true rfl)⟩ ⟨(Nat.le_of_ble_eq_true rfl), (Nat.le_of_ble_eq_true rfl)⟩ hl.1 rfl (lv_room (Nat.le_of_ble_eq_true rfl)) dX3_pay_15 (fun u H locs h hP hD hS => ?_)
    obtain ⟨r15, mo15⟩ := u
    have hP : va_P D vwCl (wM cI mA mo15) H := hP
    have hD : va_D A (wM cI mA mo15) := hD
    exact zW_iret C (r15, mo15) rfl h hP hD hS (Nat.le_of_ble_eq_true rfl) (Nat.le_of_ble_eq_true rfl) dX3_pay_18
def wpX3_release (post : Int32 → MS → Prop) (mo : MS) (p0 : Int32) : Prop := wpX3_isDuty (fun r7 => (r7 = 0 → wpX3_no (fun r15 mo15 => post r15 mo15) (0, mo.2.1, mo.2.2.1, mo.2.2.2.1, mo.2.2.2.2.1, mo.2.2.2.2.2.1, mo.2.2.2.2.2.2.1, mo.2.2.2.2.2.2.2.1, mo.2.2.2.2.2.2.2.2.1, mo.2.2.2.2.2.2.2.2.2.1, mo.2.2.2.2.2.2.2.2.2.2.1, mo.2.2.2.2.2.2.2.2.2.2.2) 1) ∧ (¬ r7 = 0 → wpX3_state (fun r21 => (r21 ≤ 2 → wpX3_end (fun mo37 => wpX3_releaseBehind (fun r43 mo43 => post (1 + r43) mo43) mo37 p0) (0, mo.2.1, mo.2.2.1, mo.2.2.2.1, mo.2.2.2.2.1, mo.2.2.2.2.2.1, mo.2.2.2.2.2.2.1, mo.2.2.2.2.2.2.2.1, mo.2.2.2.2.2.2.2.2.1, mo.2.2.2.2.2.2.2.2.2.1, mo.2.2.2.2.2.2.2.2.2.2.1, mo.2.2.2.2.2.2.2.2.2.2.2) p0 5) ∧ (¬ r21 ≤ 2 → wpX3_no (fun r30 mo30 => post r30 mo30) (0, mo.2.1, mo.2.2.1, mo.2.2.2.1, mo.2.2.2.2.1, mo.2.2.2.2.2.1, mo.2.2.2.2.2.2.1, mo.2.2.2.2.2.2.2.1, mo.2.2.2.2.2.2.2.2.1, mo.2.2.2.2.2.2.2.2.2.1, mo.2.2.2.2.2.2.2.2.2.2.1, mo.2.2.2.2.2.2.2.2.2.2.2) 2)) (0, mo.2.1, mo.2.2.1, mo.2.2.2.1, mo.2.2.2.2.1, mo.2.2.2.2.2.1, mo.2.2.2.2.2.2.1, mo.2.2.2.2.2.2.2.1, mo.2.2.2.2.2.2.2.2.1, mo.2.2.2.2.2.2.2.2.2.1, mo.2.2.2.2.2.2.2.2.2.2.1, mo.2.2.2.2.2.2.2.2.2.2.2) p0)) (0, mo.2.1, mo.2.2.1, mo.2.2.2.1, mo.2.2.2.2.1, mo.2.2.2.2.2.1, mo.2.2.2.2.2.2.1, mo.2.2.2.2.2.2.2.1, mo.2.2.2.2.2.2.2.2.1, mo.2.2.2.2.2.2.2.2.2.1, mo.2.2.2.2.2.2.2.2.2.2.1, mo.2.2.2.2.2.2.2.2.2.2.2) p0
set_option maxHeartbeats 4000000 in
set_option maxRecDepth 100000 in
theorem c_X3_release {l : Launch} (hfl : l.stackTraces = false) {s0 : State} (hs0 : zS s0) (D : va_G) (cI cB cJ : ClassId) (mA : Nat → Nat) (mo : MS) (p0 : Int32) {post : Int32 → MS → Prop} (h : wpX3_release post mo p0) : zW s0 l D (zty cI cB cJ) yX3_release cX3_release 2 (some .int) 3 0 0 [.ref (mA 0), .int p0] (wM cI mA mo) (fun u : Int32 × MS => some (Value.int u.1)) (fun u : Int32 × MS => post u.1 u.2) (fun u : Int32 × MS => wM cI mA u.2) := by
  refine zW_intro (by decide +kernel) (Nat.le_of_ble_eq_true rfl) ?_
  intro p e s m below meth c A C hnm hA hG hP hD hS ls hl
  have C : zC D (zty cI cB cJ) p s m ([.ref (mA 0), .int p0] : List Value).toArray meth c cX3_release RX3 (some .int) 2 := C
  have hx := C.1
  have hb := C.2.1
  have hts := C.2.2.1
  have hown := C.2.2.2.1
  have hml := C.2.2.2.2.2.1
  have hK := C.2.2.2.2.2.2.2
  have hl : lv_has ls 2 [(0, .ref (mA 0)), (1, .int p0)] := hl
  have hP : va_P D vwCl (wM cI mA mo) s.heap := hP
  have hD : va_D A (wM cI mA mo) := hD
  unfold wpX3_release at h
  refine lv_aload_n hx hb dX3_release_0 rfl (lv_at hl 0 rfl) ?_
  refine lv_iconst (v := 0) hx hb dX3_release_1 (by decide) ?_
  refine z_put C f_X3_44 zt_X3 rfl rfl rfl rfl hP hD hS (q0 := 0) rfl (Nat.le_of_ble_eq_true rfl) dX3_release_2 (fun H locs hP hD hS => ?_)
  have hP : va_P D vwCl (wM cI mA (0, mo.2.1, mo.2.2.1, mo.2.2.2.1, mo.2.2.2.2.1, mo.2.2.2.2.2.1, mo.2.2.2.2.2.2.1, mo.2.2.2.2.2.2.2.1, mo.2.2.2.2.2.2.2.2.1, mo.2.2.2.2.2.2.2.2.2.1, mo.2.2.2.2.2.2.2.2.2.2.1, mo.2.2.2.2.2.2.2.2.2.2.2)) H := hP
  have hD : va_D A (wM cI mA (0, mo.2.1, mo.2.2.1, mo.2.2.2.1, mo.2.2.2.2.1, mo.2.2.2.2.2.1, mo.2.2.2.2.2.2.1, mo.2.2.2.2.2.2.2.1, mo.2.2.2.2.2.2.2.2.1, mo.2.2.2.2.2.2.2.2.2.1, mo.2.2.2.2.2.2.2.2.2.2.1, mo.2.2.2.2.2.2.2.2.2.2.2)) := hD
  refine lv_aload_n hx hb dX3_release_5 rfl (lv_at hl 0 rfl) ?_
  refine lv_iload_n hx hb dX3_release_6 rfl (lv_at hl 1 rfl) ?_
  refine z_RV (As := [.int p0]) (rest := []) [0, 1, 2, 3, 4, 5, 6, 7, 8, 9] C (hG.kept hS.1 hS.2.1).none hP (c_X3_isDuty hfl hs0 D cI cB cJ mA (0, mo.2.1, mo.2.2.1, mo.2.2.2.1, mo.2.2.2.2.1, mo.2.2.2.2.2.1, mo.2.2.2.2.2.2.1, mo.2.2.2.2.2.2.2.1, mo.2.2.2.2.2.2.2.2.1, mo.2.2.2.2.2.2.2.2.2.1, mo.2.2.2.2.2.2.2.2.2.2.1, mo.2.2.2.2.2.2.2.2.2.2.2) p0 h) q130 v_X3_isDuty rfl rfl rfl rfl ⟨(Nat.le_of_ble_eq_true rfl), (Nat.le_of_ble_eq_true rfl)⟩ ⟨(Nat.le_of_ble_eq_true rfl), (Nat.le_of_ble_eq_true rfl)⟩ hl.1 rfl (lv_room (Nat.le_of_ble_eq_true rfl)) dX3_release_7 (fun r7 h => ?_)
  refine lv_if_ne (tgt := 19) hx hb dX3_release_10 (by decide) (fun c10 => ?_) (fun c10 => ?_)
  · have h := h.2 c10
    refine lv_aload_n hx hb dX3_release_19 rfl (lv_at hl 0 rfl) ?_
    refine lv_iload_n hx hb dX3_release_20 rfl (lv_at hl 1 rfl) ?_
    refine z_RV (As := [.int p0]) (rest := []) [0, 1, 2, 3, 4, 5, 6, 7, 8, 9] C (hG.kept hS.1 hS.2.1).none hP (c_X3_state hfl hs0 D cI cB cJ mA (0, mo.2.1, mo.2.2.1, mo.2.2.2.1, mo.2.2.2.2.1, mo.2.2.2.2.2.1, mo.2.2.2.2.2.2.1, mo.2.2.2.2.2.2.2.1, mo.2.2.2.2.2.2.2.2.1, mo.2.2.2.2.2.2.2.2.2.1, mo.2.2.2.2.2.2.2.2.2.2.1, mo.2.2.2.2.2.2.2.2.2.2.2) p0 h) q74 v_X3_state rfl rfl rfl rfl ⟨(Nat.le_of_ble_eq_true rfl), (Nat.le_of_ble_eq_true rfl)⟩ ⟨(Nat.le_of_ble_eq_true rfl), (Nat.le_of_ble_eq_true rfl)⟩ hl.1 rfl (lv_room (Nat.le_of_ble_eq_true rfl)) dX3_release_21 (fun r21 h => ?_)
    refine lv_iconst (v := 2) hx hb dX3_release_24 (by decide) ?_
    refine lv_icmp_le (tgt := 34) hx hb dX3_release_25 (by decide) (fun c25 => ?_) (fun c25 => ?_)
    · have h := h.1 c25
      refine lv_aload_n hx hb dX3_release_34 rfl (lv_at hl 0 rfl) ?_
      refine lv_iload_n hx hb dX3_release_35 rfl (lv_at hl 1 rfl) ?_
      refine lv_iconst (v := 5) hx hb dX3_release_36 (by decide) ?_
      refine z_WV (As := [.int p0, .int 5]) (rest := []) (wr := ([] : va_W)) (wN := (fun u : MS => wM cI mA u)) [0, 1, 2, 3, 4, 5, 6, 7, 8, 9] [] [0, 1, 2, 3, 4, 5, 6, 7, 8, 9] C hG hA hP hD hS (c_X3_end hfl hs0 D cI cB cJ mA (0, mo.2.1, mo.2.2.1, mo.2.2.2.1, mo.2.2.2.2.1, mo.2.2.2.2.2.1, mo.2.2.2.2.2.2.1, mo.2.2.2.2.2.2.2.1, mo.2.2.2.2.2.2.2.2.1, mo.2.2.2.2.2.2.2.2.2.1, mo.2.2.2.2.2.2.2.2.2.2.1, mo.2.2.2.2.2.2.2.2.2.2.2) p0 5 h) q82 v_X3_end rfl rfl ⟨by decide, by decide, by decide⟩ (by decide) (fun _ => rfl) rfl rfl rfl ⟨(Nat.le_of_ble_eq_true rfl), (Nat.le_of_ble_eq_true rfl)⟩ ⟨(Nat.le_of_ble_eq_true rfl), (Nat.le_of_ble_eq_true rfl)⟩ hl.1 rfl (lv_room (Nat.le_of_ble_eq_true rfl)) dX3_release_37 (fun u H locs h hP hD hS => ?_)
      obtain ⟨mo37, rfl⟩ : ∃ z, z = u := ⟨_, rfl⟩
      have hP : va_P D vwCl (wM cI mA mo37) H := hP
      have hD : va_D A (wM cI mA mo37) := hD
      refine lv_iconst (v := 1) hx hb dX3_release_40 (by decide) ?_
      refine lv_aload_n hx hb dX3_release_41 rfl (lv_at hl 0 rfl) ?_
      refine lv_iload_n hx hb dX3_release_42 rfl (lv_at hl 1 rfl) ?_
      refine z_WV (As := [.int p0]) (rest := [.int 1]) (wr := ([] : va_W)) (wN := (fun u : Int32 × MS => wM cI mA u.2)) [0, 1, 2, 3, 4, 5, 6, 7, 8, 9] [] [0, 1, 2, 3, 4, 5, 6, 7, 8, 9] C hG hA hP hD hS (c_X3_releaseBehind hfl hs0 D cI cB cJ mA mo37 p0 h) q100 v_X3_releaseBehind rfl rfl ⟨by decide, by decide, by decide⟩ (by decide) (fun _ => rfl) rfl rfl rfl ⟨(Nat.le_of_ble_eq_true rfl), (Nat.le_of_ble_eq_true rfl)⟩ ⟨(Nat.le_of_ble_eq_true rfl), (Nat.le_of_ble_eq_true rfl)⟩ hl.1 rfl (lv_room (Nat.le_of_ble_eq_true rfl)) dX3_release_43 (fun u H locs h hP hD hS => ?_)
      obtain ⟨r43, mo43⟩ := u
      have hP : va_P D vwCl (wM cI mA mo43) H := hP
      have hD : va_D A (wM cI mA mo43) := hD
      refine lv_iadd hx hb dX3_release_46 ?_
      exact zW_iret C ((1 + r43), mo43) rfl h hP hD hS (Nat.le_of_ble_eq_true rfl) (Nat.le_of_ble_eq_true rfl) dX3_release_47
    · have h := h.2 c25
      refine lv_aload_n hx hb dX3_release_28 rfl (lv_at hl 0 rfl) ?_
      refine lv_iconst (v := 2) hx hb dX3_release_29 (by decide) ?_
      refine z_WV (As := [.int 2]) (rest := []) (wr := ([] : va_W)) (wN := (fun u : Int32 × MS => wM cI mA u.2)) [0, 1, 2, 3, 4, 5, 6, 7, 8, 9] [] [0, 1, 2, 3, 4, 5, 6, 7, 8, 9] C hG hA hP hD hS (c_X3_no hfl hs0 D cI cB cJ mA (0, mo.2.1, mo.2.2.1, mo.2.2.2.1, mo.2.2.2.2.1, mo.2.2.2.2.2.1, mo.2.2.2.2.2.2.1, mo.2.2.2.2.2.2.2.1, mo.2.2.2.2.2.2.2.2.1, mo.2.2.2.2.2.2.2.2.2.1, mo.2.2.2.2.2.2.2.2.2.2.1, mo.2.2.2.2.2.2.2.2.2.2.2) 2 h) q122 v_X3_no rfl rfl ⟨by decide, by decide, by decide⟩ (by decide) (fun _ => rfl) rfl rfl rfl ⟨(Nat.le_of_ble_eq_true rfl), (Nat.le_of_ble_eq_true rfl)⟩ ⟨(Nat.le_of_ble_eq_true rfl), (Nat.le_of_ble_eq_true rfl)⟩ hl.1 rfl (lv_room (Nat.le_of_ble_eq_true rfl)) dX3_release_30 (fun u H locs h hP hD hS => ?_)
      obtain ⟨r30, mo30⟩ := u
      have hP : va_P D vwCl (wM cI mA mo30) H := hP
      have hD : va_D A (wM cI mA mo30) := hD
      exact zW_iret C (r30, mo30) rfl h hP hD hS (Nat.le_of_ble_eq_true rfl) (Nat.le_of_ble_eq_true rfl) dX3_release_33
  · have h := h.1 c10
    refine lv_aload_n hx hb dX3_release_13 rfl (lv_at hl 0 rfl) ?_
    refine lv_iconst (v := 1) hx hb dX3_release_14 (by decide) ?_
    refine z_WV (As := [.int 1]) (rest := []) (wr := ([] : va_W)) (wN := (fun u : Int32 × MS => wM cI mA u.2)) [0, 1, 2, 3, 4, 5, 6, 7, 8, 9] [] [0, 1, 2, 3, 4, 5, 6, 7, 8, 9] C hG hA hP hD hS (c_X3_no hfl hs0 D cI cB cJ mA (0, mo.2.1, mo.2.2.1, mo.2.2.2.1, mo.2.2.2.2.1, mo.2.2.2.2.2.1, mo.2.2.2.2.2.2.1, mo.2.2.2.2.2.2.2.1, mo.2.2.2.2.2.2.2.2.1, mo.2.2.2.2.2.2.2.2.2.1, mo.2.2.2.2.2.2.2.2.2.2.1, mo.2.2.2.2.2.2.2.2.2.2.2) 1 h) q122 v_X3_no rfl rfl ⟨by decide, by decide, by decide⟩ (by decide) (fun _ => rfl) rfl rfl rfl ⟨(Nat.le_of_ble_eq_true rfl), (Nat.le_of_ble_eq_true rfl)⟩ ⟨(Nat.le_of_ble_eq_true rfl), (Nat.le_of_ble_eq_true rfl)⟩ hl.1 rfl (lv_room (Nat.le_of_ble_eq_true rfl)) dX3_release_15 (fun u H locs h hP hD hS => ?_)
    obtain ⟨r15, mo15⟩ := u
    have hP : va_P D vwCl (wM cI mA mo15) H := hP
    have hD : va_D A (wM cI mA mo15) := hD
    exact zW_iret C (r15, mo15) rfl h hP hD hS (Nat.le_of_ble_eq_true rfl) (Nat.le_of_ble_eq_true rfl) dX3_release_18
def wpX3_stop (post : Int32 → MS → Prop) (mo : MS) (p0 : Int32) (p1 : Int32) : Prop := wpX3_isDuty (fun r7 => (r7 = 0 → wpX3_no (fun r15 mo15 => post r15 mo15) (0, mo.2.1, mo.2.2.1, mo.2.2.2.1, mo.2.2.2.2.1, mo.2.2.2.2.2.1, mo.2.2.2.2.2.2.1, mo.2.2.2.2.2.2.2.1, mo.2.2.2.2.2.2.2.2.1, mo.2.2.2.2.2.2.2.2.2.1, mo.2.2.2.2.2.2.2.2.2.2.1, mo.2.2.2.2.2.2.2.2.2.2.2) 1) ∧ (¬ r7 = 0 → wpX3_isFrom (fun r23 => (r23 = 0 → wpX3_no (fun r31 mo31 => post r31 mo31) (0, mo.2.1, mo.2.2.1, mo.2.2.2.1, mo.2.2.2.2.1, mo.2.2.2.2.2.1, mo.2.2.2.2.2.2.1, mo.2.2.2.2.2.2.2.1, mo.2.2.2.2.2.2.2.2.1, mo.2.2.2.2.2.2.2.2.2.1, mo.2.2.2.2.2.2.2.2.2.2.1, mo.2.2.2.2.2.2.2.2.2.2.2) 2) ∧ (¬ r23 = 0 → wpX3_isOpen (fun r37 => (r37 = 0 → wpX3_no (fun r45 mo45 => post r45 mo45) (0, mo.2.1, mo.2.2.1, mo.2.2.2.1, mo.2.2.2.2.1, mo.2.2.2.2.2.1, mo.2.2.2.2.2.2.1, mo.2.2.2.2.2.2.2.1, mo.2.2.2.2.2.2.2.2.1, mo.2.2.2.2.2.2.2.2.2.1, mo.2.2.2.2.2.2.2.2.2.2.1, mo.2.2.2.2.2.2.2.2.2.2.2) 3) ∧ (¬ r37 = 0 → vp_in (48 + p0) 68 ∧ (vp_in (48 + p0) 68 ∧ (post (mo.2.2.2.2.2.2.2.2.2.2.1 (48 + p0).toNatClampNeg) (0, mo.2.1, mo.2.2.1, mo.2.2.2.1, mo.2.2.2.2.1, mo.2.2.2.2.2.1, mo.2.2.2.2.2.2.1, mo.2.2.2.2.2.2.2.1, mo.2.2.2.2.2.2.2.2.1, mo.2.2.2.2.2.2.2.2.2.1, (upd mo.2.2.2.2.2.2.2.2.2.2.1 (48 + p0).toNatClampNeg p1), mo.2.2.2.2.2.2.2.2.2.2.2))))) (0, mo.2.1, mo.2.2.1, mo.2.2.2.1, mo.2.2.2.2.1, mo.2.2.2.2.2.1, mo.2.2.2.2.2.2.1, mo.2.2.2.2.2.2.2.1, mo.2.2.2.2.2.2.2.2.1, mo.2.2.2.2.2.2.2.2.2.1, mo.2.2.2.2.2.2.2.2.2.2.1, mo.2.2.2.2.2.2.2.2.2.2.2) p0)) p1 0 20)) (0, mo.2.1, mo.2.2.1, mo.2.2.2.1, mo.2.2.2.2.1, mo.2.2.2.2.2.1, mo.2.2.2.2.2.2.1, mo.2.2.2.2.2.2.2.1, mo.2.2.2.2.2.2.2.2.1, mo.2.2.2.2.2.2.2.2.2.1, mo.2.2.2.2.2.2.2.2.2.2.1, mo.2.2.2.2.2.2.2.2.2.2.2) p0
set_option maxHeartbeats 4000000 in
set_option maxRecDepth 100000 in
theorem c_X3_stop {l : Launch} (hfl : l.stackTraces = false) {s0 : State} (hs0 : zS s0) (D : va_G) (cI cB cJ : ClassId) (mA : Nat → Nat) (mo : MS) (p0 : Int32) (p1 : Int32) {post : Int32 → MS → Prop} (h : wpX3_stop post mo p0 p1) : zW s0 l D (zty cI cB cJ) yX3_stop cX3_stop 4 (some .int) 3 0 0 [.ref (mA 0), .int p0, .int p1] (wM cI mA mo) (fun u : Int32 × MS => some (Value.int u.1)) (fun u : Int32 × MS => post u.1 u.2) (fun u : Int32 × MS => wM cI mA u.2) := by
  refine zW_intro (by decide +kernel) (Nat.le_of_ble_eq_true rfl) ?_
  intro p e s m below meth c A C hnm hA hG hP hD hS ls hl
  have C : zC D (zty cI cB cJ) p s m ([.ref (mA 0), .int p0, .int p1] : List Value).toArray meth c cX3_stop RX3 (some .int) 4 := C
  have hx := C.1
  have hb := C.2.1
  have hts := C.2.2.1
  have hown := C.2.2.2.1
  have hml := C.2.2.2.2.2.1
  have hK := C.2.2.2.2.2.2.2
  have hl : lv_has ls 4 [(0, .ref (mA 0)), (1, .int p0), (2, .int p1)] := hl
  have hP : va_P D vwCl (wM cI mA mo) s.heap := hP
  have hD : va_D A (wM cI mA mo) := hD
  unfold wpX3_stop at h
  refine lv_aload_n hx hb dX3_stop_0 rfl (lv_at hl 0 rfl) ?_
  refine lv_iconst (v := 0) hx hb dX3_stop_1 (by decide) ?_
  refine z_put C f_X3_44 zt_X3 rfl rfl rfl rfl hP hD hS (q0 := 0) rfl (Nat.le_of_ble_eq_true rfl) dX3_stop_2 (fun H locs hP hD hS => ?_)
  have hP : va_P D vwCl (wM cI mA (0, mo.2.1, mo.2.2.1, mo.2.2.2.1, mo.2.2.2.2.1, mo.2.2.2.2.2.1, mo.2.2.2.2.2.2.1, mo.2.2.2.2.2.2.2.1, mo.2.2.2.2.2.2.2.2.1, mo.2.2.2.2.2.2.2.2.2.1, mo.2.2.2.2.2.2.2.2.2.2.1, mo.2.2.2.2.2.2.2.2.2.2.2)) H := hP
  have hD : va_D A (wM cI mA (0, mo.2.1, mo.2.2.1, mo.2.2.2.1, mo.2.2.2.2.1, mo.2.2.2.2.2.1, mo.2.2.2.2.2.2.1, mo.2.2.2.2.2.2.2.1, mo.2.2.2.2.2.2.2.2.1, mo.2.2.2.2.2.2.2.2.2.1, mo.2.2.2.2.2.2.2.2.2.2.1, mo.2.2.2.2.2.2.2.2.2.2.2)) := hD
  refine lv_aload_n hx hb dX3_stop_5 rfl (lv_at hl 0 rfl) ?_
  refine lv_iload_n hx hb dX3_stop_6 rfl (lv_at hl 1 rfl) ?_
  refine z_RV (As := [.int p0]) (rest := []) [0, 1, 2, 3, 4, 5, 6, 7, 8, 9] C (hG.kept hS.1 hS.2.1).none hP (c_X3_isDuty hfl hs0 D cI cB cJ mA (0, mo.2.1, mo.2.2.1, mo.2.2.2.1, mo.2.2.2.2.1, mo.2.2.2.2.2.1, mo.2.2.2.2.2.2.1, mo.2.2.2.2.2.2.2.1, mo.2.2.2.2.2.2.2.2.1, mo.2.2.2.2.2.2.2.2.2.1, mo.2.2.2.2.2.2.2.2.2.2.1, mo.2.2.2.2.2.2.2.2.2.2.2) p0 h) q130 v_X3_isDuty rfl rfl rfl rfl ⟨(Nat.le_of_ble_eq_true rfl), (Nat.le_of_ble_eq_true rfl)⟩ ⟨(Nat.le_of_ble_eq_true rfl), (Nat.le_of_ble_eq_true rfl)⟩ hl.1 rfl (lv_room (Nat.le_of_ble_eq_true rfl)) dX3_stop_7 (fun r7 h => ?_)
  refine lv_if_ne (tgt := 19) hx hb dX3_stop_10 (by decide) (fun c10 => ?_) (fun c10 => ?_)
  · have h := h.2 c10
    refine lv_iload_n hx hb dX3_stop_19 rfl (lv_at hl 2 rfl) ?_
    refine lv_iconst (v := 0) hx hb dX3_stop_20 (by decide) ?_
    refine lv_bipush (v := 20) hx hb dX3_stop_21 (by decide) ?_
    refine z_RS (As := [.int p1, .int 0, .int 20]) (rest := []) [] C (hG.kept hS.1 hS.2.1).none hP (c_X3_isFrom hfl hs0 D cI cB cJ p1 0 20 h) q66 v_X3_isFrom rfl rfl ⟨(Nat.le_of_ble_eq_true rfl), (Nat.le_of_ble_eq_true rfl)⟩ ⟨(Nat.le_of_ble_eq_true rfl), (Nat.le_of_ble_eq_true rfl)⟩ hl.1 rfl (lv_room (Nat.le_of_ble_eq_true rfl)) dX3_stop_23 (fun r23 h => ?_)
    refine lv_if_ne (tgt := 35) hx hb dX3_stop_26 (by decide) (fun c26 => ?_) (fun c26 => ?_)
    · have h := h.2 c26
      refine lv_aload_n hx hb dX3_stop_35 rfl (lv_at hl 0 rfl) ?_
      refine lv_iload_n hx hb dX3_stop_36 rfl (lv_at hl 1 rfl) ?_
      refine z_RV (As := [.int p0]) (rest := []) [0, 1, 2, 3, 4, 5, 6, 7, 8, 9] C (hG.kept hS.1 hS.2.1).none hP (c_X3_isOpen hfl hs0 D cI cB cJ mA (0, mo.2.1, mo.2.2.1, mo.2.2.2.1, mo.2.2.2.2.1, mo.2.2.2.2.2.1, mo.2.2.2.2.2.2.1, mo.2.2.2.2.2.2.2.1, mo.2.2.2.2.2.2.2.2.1, mo.2.2.2.2.2.2.2.2.2.1, mo.2.2.2.2.2.2.2.2.2.2.1, mo.2.2.2.2.2.2.2.2.2.2.2) p0 h) q110 v_X3_isOpen rfl rfl rfl rfl ⟨(Nat.le_of_ble_eq_true rfl), (Nat.le_of_ble_eq_true rfl)⟩ ⟨(Nat.le_of_ble_eq_true rfl), (Nat.le_of_ble_eq_true rfl)⟩ hl.1 rfl (lv_room (Nat.le_of_ble_eq_true rfl)) dX3_stop_37 (fun r37 h => ?_)
      refine lv_if_ne (tgt := 49) hx hb dX3_stop_40 (by decide) (fun c40 => ?_) (fun c40 => ?_)
      · have h := h.2 c40
        refine lv_aload_n hx hb dX3_stop_49 rfl (lv_at hl 0 rfl) ?_
        refine z_get C f_X3_31 hP (q0 := 0) rfl rfl dX3_stop_50 ?_
        refine lv_bipush (v := 48) hx hb dX3_stop_53 (by decide) ?_
        refine lv_iload_n hx hb dX3_stop_55 rfl (lv_at hl 1 rfl) ?_
        refine lv_iadd hx hb dX3_stop_56 ?_
        obtain ⟨g9, h⟩ := h
        refine va_iald hx hb hK hP 8 0 rfl rfl g9 dX3_stop_57 ?_
        refine lv_istore_n (lv' := [(3, .int (mo.2.2.2.2.2.2.2.2.2.2.1 (48 + p0).toNatClampNeg)), (0, .ref (mA 0)), (1, .int p0), (2, .int p1)]) hx hb dX3_stop_58 rfl hl (by decide) rfl (fun ls hl => ?_)
        refine lv_aload_n hx hb dX3_stop_59 rfl (lv_at hl 1 rfl) ?_
        refine z_get C f_X3_31 hP (q0 := 0) rfl rfl dX3_stop_60 ?_
        refine lv_bipush (v := 48) hx hb dX3_stop_63 (by decide) ?_
        refine lv_iload_n hx hb dX3_stop_65 rfl (lv_at hl 2 rfl) ?_
        refine lv_iadd hx hb dX3_stop_66 ?_
        refine lv_iload_n hx hb dX3_stop_67 rfl (lv_at hl 3 rfl) ?_
        obtain ⟨g9, h⟩ := h
        refine va_iast hx hb hK hP hD hS 8 0 rfl rfl g9 dX3_stop_68 (fun H locs hP hD hS => ?_)
        have hP : va_P D vwCl (wM cI mA (0, mo.2.1, mo.2.2.1, mo.2.2.2.1, mo.2.2.2.2.1, mo.2.2.2.2.2.1, mo.2.2.2.2.2.2.1, mo.2.2.2.2.2.2.2.1, mo.2.2.2.2.2.2.2.2.1, mo.2.2.2.2.2.2.2.2.2.1, (upd mo.2.2.2.2.2.2.2.2.2.2.1 (48 + p0).toNatClampNeg p1), mo.2.2.2.2.2.2.2.2.2.2.2)) H := hP
        have hD : va_D A (wM cI mA (0, mo.2.1, mo.2.2.1, mo.2.2.2.1, mo.2.2.2.2.1, mo.2.2.2.2.2.1, mo.2.2.2.2.2.2.1, mo.2.2.2.2.2.2.2.1, mo.2.2.2.2.2.2.2.2.1, mo.2.2.2.2.2.2.2.2.2.1, (upd mo.2.2.2.2.2.2.2.2.2.2.1 (48 + p0).toNatClampNeg p1), mo.2.2.2.2.2.2.2.2.2.2.2)) := hD
        refine lv_iload_n hx hb dX3_stop_69 rfl (lv_at hl 0 rfl) ?_
        exact zW_iret C ((mo.2.2.2.2.2.2.2.2.2.2.1 (48 + p0).toNatClampNeg), (0, mo.2.1, mo.2.2.1, mo.2.2.2.1, mo.2.2.2.2.1, mo.2.2.2.2.2.1, mo.2.2.2.2.2.2.1, mo.2.2.2.2.2.2.2.1, mo.2.2.2.2.2.2.2.2.1, mo.2.2.2.2.2.2.2.2.2.1, (upd mo.2.2.2.2.2.2.2.2.2.2.1 (48 + p0).toNatClampNeg p1), mo.2.2.2.2.2.2.2.2.2.2.2)) rfl h hP hD hS (Nat.le_of_ble_eq_true rfl) (Nat.le_of_ble_eq_true rfl) dX3_stop_70
      · have h := h.1 c40
        refine lv_aload_n hx hb dX3_stop_43 rfl (lv_at hl 0 rfl) ?_
        refine lv_iconst (v := 3) hx hb dX3_stop_44 (by decide) ?_
        refine z_WV (As := [.int 3]) (rest := []) (wr := ([] : va_W)) (wN := (fun u : Int32 × MS => wM cI mA u.2)) [0, 1, 2, 3, 4, 5, 6, 7, 8, 9] [] [0, 1, 2, 3, 4, 5, 6, 7, 8, 9] C hG hA hP hD hS (c_X3_no hfl hs0 D cI cB cJ mA (0, mo.2.1, mo.2.2.1, mo.2.2.2.1, mo.2.2.2.2.1, mo.2.2.2.2.2.1, mo.2.2.2.2.2.2.1, mo.2.2.2.2.2.2.2.1, mo.2.2.2.2.2.2.2.2.1, mo.2.2.2.2.2.2.2.2.2.1, mo.2.2.2.2.2.2.2.2.2.2.1, mo.2.2.2.2.2.2.2.2.2.2.2) 3 h) q122 v_X3_no rfl rfl ⟨by decide, by decide, by decide⟩ (by decide) (fun _ => rfl) rfl rfl rfl ⟨(Nat.le_of_ble_eq_true rfl), (Nat.le_of_ble_eq_true rfl)⟩ ⟨(Nat.le_of_ble_eq_true rfl), (Nat.le_of_ble_eq_true rfl)⟩ hl.1 rfl (lv_room (Nat.le_of_ble_eq_true rfl)) dX3_stop_45 (fun u H locs h hP hD hS => ?_)
        obtain ⟨r45, mo45⟩ := u
        have hP : va_P D vwCl (wM cI mA mo45) H := hP
        have hD : va_D A (wM cI mA mo45) := hD
        exact zW_iret C (r45, mo45) rfl h hP hD hS (Nat.le_of_ble_eq_true rfl) (Nat.le_of_ble_eq_true rfl) dX3_stop_48
    · have h := h.1 c26
      refine lv_aload_n hx hb dX3_stop_29 rfl (lv_at hl 0 rfl) ?_
      refine lv_iconst (v := 2) hx hb dX3_stop_30 (by decide) ?_
      refine z_WV (As := [.int 2]) (rest := []) (wr := ([] : va_W)) (wN := (fun u : Int32 × MS => wM cI mA u.2)) [0, 1, 2, 3, 4, 5, 6, 7, 8, 9] [] [0, 1, 2, 3, 4, 5, 6, 7, 8, 9] C hG hA hP hD hS (c_X3_no hfl hs0 D cI cB cJ mA (0, mo.2.1, mo.2.2.1, mo.2.2.2.1, mo.2.2.2.2.1, mo.2.2.2.2.2.1, mo.2.2.2.2.2.2.1, mo.2.2.2.2.2.2.2.1, mo.2.2.2.2.2.2.2.2.1, mo.2.2.2.2.2.2.2.2.2.1, mo.2.2.2.2.2.2.2.2.2.2.1, mo.2.2.2.2.2.2.2.2.2.2.2) 2 h) q122 v_X3_no rfl rfl ⟨by decide, by decide, by decide⟩ (by decide) (fun _ => rfl) rfl rfl rfl ⟨(Nat.le_of_ble_eq_true rfl), (Nat.le_of_ble_eq_true rfl)⟩ ⟨(Nat.le_of_ble_eq_true rfl), (Nat.le_of_ble_eq_true rfl)⟩ hl.1 rfl (lv_room (Nat.le_of_ble_eq_true rfl)) dX3_stop_31 (fun u H locs h hP hD hS => ?_)
      obtain ⟨r31, mo31⟩ := u
      have hP : va_P D vwCl (wM cI mA mo31) H := hP
      have hD : va_D A (wM cI mA mo31) := hD
      exact zW_iret C (r31, mo31) rfl h hP hD hS (Nat.le_of_ble_eq_true rfl) (Nat.le_of_ble_eq_true rfl) dX3_stop_34
  · have h := h.1 c10
    refine lv_aload_n hx hb dX3_stop_13 rfl (lv_at hl 0 rfl) ?_
    refine lv_iconst (v := 1) hx hb dX3_stop_14 (by decide) ?_
    refine z_WV (As := [.int 1]) (rest := []) (wr := ([] : va_W)) (wN := (fun u : Int32 × MS => wM cI mA u.2)) [0, 1, 2, 3, 4, 5, 6, 7, 8, 9] [] [0, 1, 2, 3, 4, 5, 6, 7, 8, 9] C hG hA hP hD hS (c_X3_no hfl hs0 D cI cB cJ mA (0, mo.2.1, mo.2.2.1, mo.2.2.2.1, mo.2.2.2.2.1, mo.2.2.2.2.2.1, mo.2.2.2.2.2.2.1, mo.2.2.2.2.2.2.2.1, mo.2.2.2.2.2.2.2.2.1, mo.2.2.2.2.2.2.2.2.2.1, mo.2.2.2.2.2.2.2.2.2.2.1, mo.2.2.2.2.2.2.2.2.2.2.2) 1 h) q122 v_X3_no rfl rfl ⟨by decide, by decide, by decide⟩ (by decide) (fun _ => rfl) rfl rfl rfl ⟨(Nat.le_of_ble_eq_true rfl), (Nat.le_of_ble_eq_true rfl)⟩ ⟨(Nat.le_of_ble_eq_true rfl), (Nat.le_of_ble_eq_true rfl)⟩ hl.1 rfl (lv_room (Nat.le_of_ble_eq_true rfl)) dX3_stop_15 (fun u H locs h hP hD hS => ?_)
    obtain ⟨r15, mo15⟩ := u
    have hP : va_P D vwCl (wM cI mA mo15) H := hP
    have hD : va_D A (wM cI mA mo15) := hD
    exact zW_iret C (r15, mo15) rfl h hP hD hS (Nat.le_of_ble_eq_true rfl) (Nat.le_of_ble_eq_true rfl) dX3_stop_18
def wpX3_give (post : Int32 → MS → Prop) (mo : MS) (p0 : Int32) (p1 : Int32) : Prop := wpX3_isParty (fun r7 => (r7 = 0 → wpX3_no (fun r15 mo15 => post r15 mo15) (0, mo.2.1, mo.2.2.1, mo.2.2.2.1, mo.2.2.2.2.1, mo.2.2.2.2.2.1, mo.2.2.2.2.2.2.1, mo.2.2.2.2.2.2.2.1, mo.2.2.2.2.2.2.2.2.1, mo.2.2.2.2.2.2.2.2.2.1, mo.2.2.2.2.2.2.2.2.2.2.1, mo.2.2.2.2.2.2.2.2.2.2.2) 1) ∧ (¬ r7 = 0 → wpX3_isFrom (fun r24 => (r24 = 0 → wpX3_no (fun r32 mo32 => post r32 mo32) (0, mo.2.1, mo.2.2.1, mo.2.2.2.1, mo.2.2.2.2.1, mo.2.2.2.2.2.1, mo.2.2.2.2.2.2.1, mo.2.2.2.2.2.2.2.1, mo.2.2.2.2.2.2.2.2.1, mo.2.2.2.2.2.2.2.2.2.1, mo.2.2.2.2.2.2.2.2.2.2.1, mo.2.2.2.2.2.2.2.2.2.2.2) 2) ∧ (¬ r24 = 0 → vp_in (2 + p0) 68 ∧ (vp_in (2 + p0) 68 ∧ (vp_in (2 + p0) 68 ∧ (post ((upd mo.2.2.2.2.2.2.2.2.2.2.1 (2 + p0).toNatClampNeg ((mo.2.2.2.2.2.2.2.2.2.2.1 (2 + p0).toNatClampNeg) + p1)) (2 + p0).toNatClampNeg) (0, mo.2.1, mo.2.2.1, mo.2.2.2.1, mo.2.2.2.2.1, mo.2.2.2.2.2.1, mo.2.2.2.2.2.2.1, mo.2.2.2.2.2.2.2.1, mo.2.2.2.2.2.2.2.2.1, mo.2.2.2.2.2.2.2.2.2.1, (upd mo.2.2.2.2.2.2.2.2.2.2.1 (2 + p0).toNatClampNeg ((mo.2.2.2.2.2.2.2.2.2.2.1 (2 + p0).toNatClampNeg) + p1)), mo.2.2.2.2.2.2.2.2.2.2.2)))))) p1 1 500)) (0, mo.2.1, mo.2.2.1, mo.2.2.2.1, mo.2.2.2.2.1, mo.2.2.2.2.2.1, mo.2.2.2.2.2.2.1, mo.2.2.2.2.2.2.2.1, mo.2.2.2.2.2.2.2.2.1, mo.2.2.2.2.2.2.2.2.2.1, mo.2.2.2.2.2.2.2.2.2.2.1, mo.2.2.2.2.2.2.2.2.2.2.2) p0
set_option maxHeartbeats 4000000 in
set_option maxRecDepth 100000 in
theorem c_X3_give {l : Launch} (hfl : l.stackTraces = false) {s0 : State} (hs0 : zS s0) (D : va_G) (cI cB cJ : ClassId) (mA : Nat → Nat) (mo : MS) (p0 : Int32) (p1 : Int32) {post : Int32 → MS → Prop} (h : wpX3_give post mo p0 p1) : zW s0 l D (zty cI cB cJ) yX3_give cX3_give 3 (some .int) 3 0 0 [.ref (mA 0), .int p0, .int p1] (wM cI mA mo) (fun u : Int32 × MS => some (Value.int u.1)) (fun u : Int32 × MS => post u.1 u.2) (fun u : Int32 × MS => wM cI mA u.2) := by
  refine zW_intro (by decide +kernel) (Nat.le_of_ble_eq_true rfl) ?_
  intro p e s m below meth c A C hnm hA hG hP hD hS ls hl
  have C : zC D (zty cI cB cJ) p s m ([.ref (mA 0), .int p0, .int p1] : List Value).toArray meth c cX3_give RX3 (some .int) 3 := C
  have hx := C.1
  have hb := C.2.1
  have hts := C.2.2.1
  have hown := C.2.2.2.1
  have hml := C.2.2.2.2.2.1
  have hK := C.2.2.2.2.2.2.2
  have hl : lv_has ls 3 [(0, .ref (mA 0)), (1, .int p0), (2, .int p1)] := hl
  have hP : va_P D vwCl (wM cI mA mo) s.heap := hP
  have hD : va_D A (wM cI mA mo) := hD
  unfold wpX3_give at h
  refine lv_aload_n hx hb dX3_give_0 rfl (lv_at hl 0 rfl) ?_
  refine lv_iconst (v := 0) hx hb dX3_give_1 (by decide) ?_
  refine z_put C f_X3_44 zt_X3 rfl rfl rfl rfl hP hD hS (q0 := 0) rfl (Nat.le_of_ble_eq_true rfl) dX3_give_2 (fun H locs hP hD hS => ?_)
  have hP : va_P D vwCl (wM cI mA (0, mo.2.1, mo.2.2.1, mo.2.2.2.1, mo.2.2.2.2.1, mo.2.2.2.2.2.1, mo.2.2.2.2.2.2.1, mo.2.2.2.2.2.2.2.1, mo.2.2.2.2.2.2.2.2.1, mo.2.2.2.2.2.2.2.2.2.1, mo.2.2.2.2.2.2.2.2.2.2.1, mo.2.2.2.2.2.2.2.2.2.2.2)) H := hP
  have hD : va_D A (wM cI mA (0, mo.2.1, mo.2.2.1, mo.2.2.2.1, mo.2.2.2.2.1, mo.2.2.2.2.2.1, mo.2.2.2.2.2.2.1, mo.2.2.2.2.2.2.2.1, mo.2.2.2.2.2.2.2.2.1, mo.2.2.2.2.2.2.2.2.2.1, mo.2.2.2.2.2.2.2.2.2.2.1, mo.2.2.2.2.2.2.2.2.2.2.2)) := hD
  refine lv_aload_n hx hb dX3_give_5 rfl (lv_at hl 0 rfl) ?_
  refine lv_iload_n hx hb dX3_give_6 rfl (lv_at hl 1 rfl) ?_
  refine z_RV (As := [.int p0]) (rest := []) [0, 1, 2, 3, 4, 5, 6, 7, 8, 9] C (hG.kept hS.1 hS.2.1).none hP (c_X3_isParty hfl hs0 D cI cB cJ mA (0, mo.2.1, mo.2.2.1, mo.2.2.2.1, mo.2.2.2.2.1, mo.2.2.2.2.2.1, mo.2.2.2.2.2.2.1, mo.2.2.2.2.2.2.2.1, mo.2.2.2.2.2.2.2.2.1, mo.2.2.2.2.2.2.2.2.2.1, mo.2.2.2.2.2.2.2.2.2.2.1, mo.2.2.2.2.2.2.2.2.2.2.2) p0 h) q126 v_X3_isParty rfl rfl rfl rfl ⟨(Nat.le_of_ble_eq_true rfl), (Nat.le_of_ble_eq_true rfl)⟩ ⟨(Nat.le_of_ble_eq_true rfl), (Nat.le_of_ble_eq_true rfl)⟩ hl.1 rfl (lv_room (Nat.le_of_ble_eq_true rfl)) dX3_give_7 (fun r7 h => ?_)
  refine lv_if_ne (tgt := 19) hx hb dX3_give_10 (by decide) (fun c10 => ?_) (fun c10 => ?_)
  · have h := h.2 c10
    refine lv_iload_n hx hb dX3_give_19 rfl (lv_at hl 2 rfl) ?_
    refine lv_iconst (v := 1) hx hb dX3_give_20 (by decide) ?_
    refine lv_sipush (v := 500) hx hb dX3_give_21 (by decide) ?_
    refine z_RS (As := [.int p1, .int 1, .int 500]) (rest := []) [] C (hG.kept hS.1 hS.2.1).none hP (c_X3_isFrom hfl hs0 D cI cB cJ p1 1 500 h) q66 v_X3_isFrom rfl rfl ⟨(Nat.le_of_ble_eq_true rfl), (Nat.le_of_ble_eq_true rfl)⟩ ⟨(Nat.le_of_ble_eq_true rfl), (Nat.le_of_ble_eq_true rfl)⟩ hl.1 rfl (lv_room (Nat.le_of_ble_eq_true rfl)) dX3_give_24 (fun r24 h => ?_)
    refine lv_if_ne (tgt := 36) hx hb dX3_give_27 (by decide) (fun c27 => ?_) (fun c27 => ?_)
    · have h := h.2 c27
      refine lv_aload_n hx hb dX3_give_36 rfl (lv_at hl 0 rfl) ?_
      refine z_get C f_X3_31 hP (q0 := 0) rfl rfl dX3_give_37 ?_
      refine lv_iconst (v := 2) hx hb dX3_give_40 (by decide) ?_
      refine lv_iload_n hx hb dX3_give_41 rfl (lv_at hl 1 rfl) ?_
      refine lv_iadd hx hb dX3_give_42 ?_
      refine lv_dup2_11 hx hb dX3_give_43 rfl rfl ?_
      obtain ⟨g9, h⟩ := h
      refine va_iald hx hb hK hP 8 0 rfl rfl g9 dX3_give_44 ?_
      refine lv_iload_n hx hb dX3_give_45 rfl (lv_at hl 2 rfl) ?_
      refine lv_iadd hx hb dX3_give_46 ?_
      obtain ⟨g9, h⟩ := h
      refine va_iast hx hb hK hP hD hS 8 0 rfl rfl g9 dX3_give_47 (fun H locs hP hD hS => ?_)
      have hP : va_P D vwCl (wM cI mA (0, mo.2.1, mo.2.2.1, mo.2.2.2.1, mo.2.2.2.2.1, mo.2.2.2.2.2.1, mo.2.2.2.2.2.2.1, mo.2.2.2.2.2.2.2.1, mo.2.2.2.2.2.2.2.2.1, mo.2.2.2.2.2.2.2.2.2.1, (upd mo.2.2.2.2.2.2.2.2.2.2.1 (2 + p0).toNatClampNeg ((mo.2.2.2.2.2.2.2.2.2.2.1 (2 + p0).toNatClampNeg) + p1)), mo.2.2.2.2.2.2.2.2.2.2.2)) H := hP
      have hD : va_D A (wM cI mA (0, mo.2.1, mo.2.2.1, mo.2.2.2.1, mo.2.2.2.2.1, mo.2.2.2.2.2.1, mo.2.2.2.2.2.2.1, mo.2.2.2.2.2.2.2.1, mo.2.2.2.2.2.2.2.2.1, mo.2.2.2.2.2.2.2.2.2.1, (upd mo.2.2.2.2.2.2.2.2.2.2.1 (2 + p0).toNatClampNeg ((mo.2.2.2.2.2.2.2.2.2.2.1 (2 + p0).toNatClampNeg) + p1)), mo.2.2.2.2.2.2.2.2.2.2.2)) := hD
      refine lv_aload_n hx hb dX3_give_48 rfl (lv_at hl 0 rfl) ?_
      refine z_get C f_X3_31 hP (q0 := 0) rfl rfl dX3_give_49 ?_
      refine lv_iconst (v := 2) hx hb dX3_give_52 (by decide) ?_
      refine lv_iload_n hx hb dX3_give_53 rfl (lv_at hl 1 rfl) ?_
      refine lv_iadd hx hb dX3_give_54 ?_
      obtain ⟨g9, h⟩ := h
      refine va_iald hx hb hK hP 8 0 rfl rfl g9 dX3_give_55 ?_
      exact zW_iret C (((upd mo.2.2.2.2.2.2.2.2.2.2.1 (2 + p0).toNatClampNeg ((mo.2.2.2.2.2.2.2.2.2.2.1 (2 + p0).toNatClampNeg) + p1)) (2 + p0).toNatClampNeg), (0, mo.2.1, mo.2.2.1, mo.2.2.2.1, mo.2.2.2.2.1, mo.2.2.2.2.2.1, mo.2.2.2.2.2.2.1, mo.2.2.2.2.2.2.2.1, mo.2.2.2.2.2.2.2.2.1, mo.2.2.2.2.2.2.2.2.2.1, (upd mo.2.2.2.2.2.2.2.2.2.2.1 (2 + p0).toNatClampNeg ((mo.2.2.2.2.2.2.2.2.2.2.1 (2 + p0).toNatClampNeg) + p1)), mo.2.2.2.2.2.2.2.2.2.2.2)) rfl h hP hD hS (Nat.le_of_ble_eq_true rfl) (Nat.le_of_ble_eq_true rfl) dX3_give_56
    · have h := h.1 c27
      refine lv_aload_n hx hb dX3_give_30 rfl (lv_at hl 0 rfl) ?_
      refine lv_iconst (v := 2) hx hb dX3_give_31 (by decide) ?_
      refine z_WV (As := [.int 2]) (rest := []) (wr := ([] : va_W)) (wN := (fun u : Int32 × MS => wM cI mA u.2)) [0, 1, 2, 3, 4, 5, 6, 7, 8, 9] [] [0, 1, 2, 3, 4, 5, 6, 7, 8, 9] C hG hA hP hD hS (c_X3_no hfl hs0 D cI cB cJ mA (0, mo.2.1, mo.2.2.1, mo.2.2.2.1, mo.2.2.2.2.1, mo.2.2.2.2.2.1, mo.2.2.2.2.2.2.1, mo.2.2.2.2.2.2.2.1, mo.2.2.2.2.2.2.2.2.1, mo.2.2.2.2.2.2.2.2.2.1, mo.2.2.2.2.2.2.2.2.2.2.1, mo.2.2.2.2.2.2.2.2.2.2.2) 2 h) q122 v_X3_no rfl rfl ⟨by decide, by decide, by decide⟩ (by decide) (fun _ => rfl) rfl rfl rfl ⟨(Nat.le_of_ble_eq_true rfl), (Nat.le_of_ble_eq_true rfl)⟩ ⟨(Nat.le_of_ble_eq_true rfl), (Nat.le_of_ble_eq_true rfl)⟩ hl.1 rfl (lv_room (Nat.le_of_ble_eq_true rfl)) dX3_give_32 (fun u H locs h hP hD hS => ?_)
      obtain ⟨r32, mo32⟩ := u
      have hP : va_P D vwCl (wM cI mA mo32) H := hP
      have hD : va_D A (wM cI mA mo32) := hD
      exact zW_iret C (r32, mo32) rfl h hP hD hS (Nat.le_of_ble_eq_true rfl) (Nat.le_of_ble_eq_true rfl) dX3_give_35
  · have h := h.1 c10
    refine lv_aload_n hx hb dX3_give_13 rfl (lv_at hl 0 rfl) ?_
    refine lv_iconst (v := 1) hx hb dX3_give_14 (by decide) ?_
    refine z_WV (As := [.int 1]) (rest := []) (wr := ([] : va_W)) (wN := (fun u : Int32 × MS => wM cI mA u.2)) [0, 1, 2, 3, 4, 5, 6, 7, 8, 9] [] [0, 1, 2, 3, 4, 5, 6, 7, 8, 9] C hG hA hP hD hS (c_X3_no hfl hs0 D cI cB cJ mA (0, mo.2.1, mo.2.2.1, mo.2.2.2.1, mo.2.2.2.2.1, mo.2.2.2.2.2.1, mo.2.2.2.2.2.2.1, mo.2.2.2.2.2.2.2.1, mo.2.2.2.2.2.2.2.2.1, mo.2.2.2.2.2.2.2.2.2.1, mo.2.2.2.2.2.2.2.2.2.2.1, mo.2.2.2.2.2.2.2.2.2.2.2) 1 h) q122 v_X3_no rfl rfl ⟨by decide, by decide, by decide⟩ (by decide) (fun _ => rfl) rfl rfl rfl ⟨(Nat.le_of_ble_eq_true rfl), (Nat.le_of_ble_eq_true rfl)⟩ ⟨(Nat.le_of_ble_eq_true rfl), (Nat.le_of_ble_eq_true rfl)⟩ hl.1 rfl (lv_room (Nat.le_of_ble_eq_true rfl)) dX3_give_15 (fun u H locs h hP hD hS => ?_)
    obtain ⟨r15, mo15⟩ := u
    have hP : va_P D vwCl (wM cI mA mo15) H := hP
    have hD : va_D A (wM cI mA mo15) := hD
    exact zW_iret C (r15, mo15) rfl h hP hD hS (Nat.le_of_ble_eq_true rfl) (Nat.le_of_ble_eq_true rfl) dX3_give_18
def wpX3_pass (post : Int32 → MS → Prop) (mo : MS) (p0 : Int32) : Prop := wpX3_isFrom (fun r9 => (r9 = 0 → wpX3_no (fun r17 mo17 => post r17 mo17) (0, mo.2.1, mo.2.2.1, mo.2.2.2.1, mo.2.2.2.2.1, mo.2.2.2.2.2.1, mo.2.2.2.2.2.2.1, mo.2.2.2.2.2.2.2.1, mo.2.2.2.2.2.2.2.2.1, mo.2.2.2.2.2.2.2.2.2.1, mo.2.2.2.2.2.2.2.2.2.2.1, mo.2.2.2.2.2.2.2.2.2.2.2) 1) ∧ (¬ r9 = 0 → wpX3_count (fun r23 => wpX3_daysOn (fun mo29 => wpX3_count (fun r34 => post (r34 - r23) mo29) mo29 4) (0, mo.2.1, mo.2.2.1, mo.2.2.2.1, mo.2.2.2.2.1, mo.2.2.2.2.2.1, mo.2.2.2.2.2.2.1, mo.2.2.2.2.2.2.2.1, mo.2.2.2.2.2.2.2.2.1, mo.2.2.2.2.2.2.2.2.2.1, mo.2.2.2.2.2.2.2.2.2.2.1, mo.2.2.2.2.2.2.2.2.2.2.2) p0) (0, mo.2.1, mo.2.2.1, mo.2.2.2.1, mo.2.2.2.2.1, mo.2.2.2.2.2.1, mo.2.2.2.2.2.2.1, mo.2.2.2.2.2.2.2.1, mo.2.2.2.2.2.2.2.2.1, mo.2.2.2.2.2.2.2.2.2.1, mo.2.2.2.2.2.2.2.2.2.2.1, mo.2.2.2.2.2.2.2.2.2.2.2) 4)) p0 1 60
set_option maxHeartbeats 4000000 in
set_option maxRecDepth 100000 in
theorem c_X3_pass {l : Launch} (hfl : l.stackTraces = false) {s0 : State} (hs0 : zS s0) (D : va_G) (cI cB cJ : ClassId) (mA : Nat → Nat) (mo : MS) (p0 : Int32) {post : Int32 → MS → Prop} (h : wpX3_pass post mo p0) : zW s0 l D (zty cI cB cJ) yX3_pass cX3_pass 3 (some .int) 7 0 0 [.ref (mA 0), .int p0] (wM cI mA mo) (fun u : Int32 × MS => some (Value.int u.1)) (fun u : Int32 × MS => post u.1 u.2) (fun u : Int32 × MS => wM cI mA u.2) := by
  refine zW_intro (by decide +kernel) (Nat.le_of_ble_eq_true rfl) ?_
  intro p e s m below meth c A C hnm hA hG hP hD hS ls hl
  have C : zC D (zty cI cB cJ) p s m ([.ref (mA 0), .int p0] : List Value).toArray meth c cX3_pass RX3 (some .int) 3 := C
  have hx := C.1
  have hb := C.2.1
  have hts := C.2.2.1
  have hown := C.2.2.2.1
  have hml := C.2.2.2.2.2.1
  have hK := C.2.2.2.2.2.2.2
  have hl : lv_has ls 3 [(0, .ref (mA 0)), (1, .int p0)] := hl
  have hP : va_P D vwCl (wM cI mA mo) s.heap := hP
  have hD : va_D A (wM cI mA mo) := hD
  unfold wpX3_pass at h
  refine lv_aload_n hx hb dX3_pass_0 rfl (lv_at hl 0 rfl) ?_
  refine lv_iconst (v := 0) hx hb dX3_pass_1 (by decide) ?_
  refine z_put C f_X3_44 zt_X3 rfl rfl rfl rfl hP hD hS (q0 := 0) rfl (Nat.le_of_ble_eq_true rfl) dX3_pass_2 (fun H locs hP hD hS => ?_)
  have hP : va_P D vwCl (wM cI mA (0, mo.2.1, mo.2.2.1, mo.2.2.2.1, mo.2.2.2.2.1, mo.2.2.2.2.2.1, mo.2.2.2.2.2.2.1, mo.2.2.2.2.2.2.2.1, mo.2.2.2.2.2.2.2.2.1, mo.2.2.2.2.2.2.2.2.2.1, mo.2.2.2.2.2.2.2.2.2.2.1, mo.2.2.2.2.2.2.2.2.2.2.2)) H := hP
  have hD : va_D A (wM cI mA (0, mo.2.1, mo.2.2.1, mo.2.2.2.1, mo.2.2.2.2.1, mo.2.2.2.2.2.1, mo.2.2.2.2.2.2.1, mo.2.2.2.2.2.2.2.1, mo.2.2.2.2.2.2.2.2.1, mo.2.2.2.2.2.2.2.2.2.1, mo.2.2.2.2.2.2.2.2.2.2.1, mo.2.2.2.2.2.2.2.2.2.2.2)) := hD
  refine lv_iload_n hx hb dX3_pass_5 rfl (lv_at hl 1 rfl) ?_
  refine lv_iconst (v := 1) hx hb dX3_pass_6 (by decide) ?_
  refine lv_bipush (v := 60) hx hb dX3_pass_7 (by decide) ?_
  refine z_RS (As := [.int p0, .int 1, .int 60]) (rest := []) [] C (hG.kept hS.1 hS.2.1).none hP (c_X3_isFrom hfl hs0 D cI cB cJ p0 1 60 h) q66 v_X3_isFrom rfl rfl ⟨(Nat.le_of_ble_eq_true rfl), (Nat.le_of_ble_eq_true rfl)⟩ ⟨(Nat.le_of_ble_eq_true rfl), (Nat.le_of_ble_eq_true rfl)⟩ hl.1 rfl (lv_room (Nat.le_of_ble_eq_true rfl)) dX3_pass_9 (fun r9 h => ?_)
  refine lv_if_ne (tgt := 21) hx hb dX3_pass_12 (by decide) (fun c12 => ?_) (fun c12 => ?_)
  · have h := h.2 c12
    refine lv_aload_n hx hb dX3_pass_21 rfl (lv_at hl 0 rfl) ?_
    refine lv_iconst (v := 4) hx hb dX3_pass_22 (by decide) ?_
    refine z_RV (As := [.int 4]) (rest := []) [0, 1, 2, 3, 4, 5, 6, 7, 8, 9] C (hG.kept hS.1 hS.2.1).none hP (c_X3_count hfl hs0 D cI cB cJ mA (0, mo.2.1, mo.2.2.1, mo.2.2.2.1, mo.2.2.2.2.1, mo.2.2.2.2.2.1, mo.2.2.2.2.2.2.1, mo.2.2.2.2.2.2.2.1, mo.2.2.2.2.2.2.2.2.1, mo.2.2.2.2.2.2.2.2.2.1, mo.2.2.2.2.2.2.2.2.2.2.1, mo.2.2.2.2.2.2.2.2.2.2.2) 4 h) q142 v_X3_count rfl rfl rfl rfl ⟨(Nat.le_of_ble_eq_true rfl), (Nat.le_of_ble_eq_true rfl)⟩ ⟨(Nat.le_of_ble_eq_true rfl), (Nat.le_of_ble_eq_true rfl)⟩ hl.1 rfl (lv_room (Nat.le_of_ble_eq_true rfl)) dX3_pass_23 (fun r23 h => ?_)
    refine lv_istore_n (lv' := [(2, .int r23), (0, .ref (mA 0)), (1, .int p0)]) hx hb dX3_pass_26 rfl hl (by decide) rfl (fun ls hl => ?_)
    refine lv_aload_n hx hb dX3_pass_27 rfl (lv_at hl 1 rfl) ?_
    refine lv_iload_n hx hb dX3_pass_28 rfl (lv_at hl 2 rfl) ?_
    refine z_WV (As := [.int p0]) (rest := []) (wr := ([] : va_W)) (wN := (fun u : MS => wM cI mA u)) [0, 1, 2, 3, 4, 5, 6, 7, 8, 9] [] [0, 1, 2, 3, 4, 5, 6, 7, 8, 9] C hG hA hP hD hS (c_X3_daysOn hfl hs0 D cI cB cJ mA (0, mo.2.1, mo.2.2.1, mo.2.2.2.1, mo.2.2.2.2.1, mo.2.2.2.2.2.1, mo.2.2.2.2.2.2.1, mo.2.2.2.2.2.2.2.1, mo.2.2.2.2.2.2.2.2.1, mo.2.2.2.2.2.2.2.2.2.1, mo.2.2.2.2.2.2.2.2.2.2.1, mo.2.2.2.2.2.2.2.2.2.2.2) p0 h) q146 v_X3_daysOn rfl rfl ⟨by decide, by decide, by decide⟩ (by decide) (fun _ => rfl) rfl rfl rfl ⟨(Nat.le_of_ble_eq_true rfl), (Nat.le_of_ble_eq_true rfl)⟩ ⟨(Nat.le_of_ble_eq_true rfl), (Nat.le_of_ble_eq_true rfl)⟩ hl.1 rfl (lv_room (Nat.le_of_ble_eq_true rfl)) dX3_pass_29 (fun u H locs h hP hD hS => ?_)
    obtain ⟨mo29, rfl⟩ : ∃ z, z = u := ⟨_, rfl⟩
    have hP : va_P D vwCl (wM cI mA mo29) H := hP
    have hD : va_D A (wM cI mA mo29) := hD
    refine lv_aload_n hx hb dX3_pass_32 rfl (lv_at hl 1 rfl) ?_
    refine lv_iconst (v := 4) hx hb dX3_pass_33 (by decide) ?_
    refine z_RV (As := [.int 4]) (rest := []) [0, 1, 2, 3, 4, 5, 6, 7, 8, 9] C (hG.kept hS.1 hS.2.1).none hP (c_X3_count hfl hs0 D cI cB cJ mA mo29 4 h) q142 v_X3_count rfl rfl rfl rfl ⟨(Nat.le_of_ble_eq_true rfl), (Nat.le_of_ble_eq_true rfl)⟩ ⟨(Nat.le_of_ble_eq_true rfl), (Nat.le_of_ble_eq_true rfl)⟩ hl.1 rfl (lv_room (Nat.le_of_ble_eq_true rfl)) dX3_pass_34 (fun r34 h => ?_)
    refine lv_iload_n hx hb dX3_pass_37 rfl (lv_at hl 0 rfl) ?_
    refine lv_isub hx hb dX3_pass_38 ?_
    exact zW_iret C ((r34 - r23), mo29) rfl h hP hD hS (Nat.le_of_ble_eq_true rfl) (Nat.le_of_ble_eq_true rfl) dX3_pass_39
  · have h := h.1 c12
    refine lv_aload_n hx hb dX3_pass_15 rfl (lv_at hl 0 rfl) ?_
    refine lv_iconst (v := 1) hx hb dX3_pass_16 (by decide) ?_
    refine z_WV (As := [.int 1]) (rest := []) (wr := ([] : va_W)) (wN := (fun u : Int32 × MS => wM cI mA u.2)) [0, 1, 2, 3, 4, 5, 6, 7, 8, 9] [] [0, 1, 2, 3, 4, 5, 6, 7, 8, 9] C hG hA hP hD hS (c_X3_no hfl hs0 D cI cB cJ mA (0, mo.2.1, mo.2.2.1, mo.2.2.2.1, mo.2.2.2.2.1, mo.2.2.2.2.2.1, mo.2.2.2.2.2.2.1, mo.2.2.2.2.2.2.2.1, mo.2.2.2.2.2.2.2.2.1, mo.2.2.2.2.2.2.2.2.2.1, mo.2.2.2.2.2.2.2.2.2.2.1, mo.2.2.2.2.2.2.2.2.2.2.2) 1 h) q122 v_X3_no rfl rfl ⟨by decide, by decide, by decide⟩ (by decide) (fun _ => rfl) rfl rfl rfl ⟨(Nat.le_of_ble_eq_true rfl), (Nat.le_of_ble_eq_true rfl)⟩ ⟨(Nat.le_of_ble_eq_true rfl), (Nat.le_of_ble_eq_true rfl)⟩ hl.1 rfl (lv_room (Nat.le_of_ble_eq_true rfl)) dX3_pass_17 (fun u H locs h hP hD hS => ?_)
    obtain ⟨r17, mo17⟩ := u
    have hP : va_P D vwCl (wM cI mA mo17) H := hP
    have hD : va_D A (wM cI mA mo17) := hD
    exact zW_iret C (r17, mo17) rfl h hP hD hS (Nat.le_of_ble_eq_true rfl) (Nat.le_of_ble_eq_true rfl) dX3_pass_20
